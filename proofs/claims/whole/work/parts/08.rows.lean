
def ishl (x y : Int32) : Int32 := x <<< (y &&& 31)
def ishr (x y : Int32) : Int32 := x >>> (y &&& 31)
def iushr (x y : Int32) : Int32 := (x.toUInt32 >>> (y.toUInt32 &&& Int32.toUInt32 31)).toInt32
def irem (x y : Int32) : Int32 := x - x / y * y
def lrem (x y : Int64) : Int64 := x - x / y * y
def lshl (x : Int64) (y : Int32) : Int64 := x <<< (y.toInt64 &&& 63)
def i2c (x : Int32) : Int32 := (x.toUInt32 % 65536).toInt32
def i2b (x : Int32) : Int32 := x.toInt8.toInt32
def bd1 {α β : Type} (o : Option β) (k : β → Option α) : Option α := match o with
  | none => none
  | some a => k a
def bd2 {α β γ : Type} (o : Option (β × γ)) (k : β → γ → Option α) : Option α := match o with
  | none => none
  | some (a, b) => k a b
def bd3 {α β γ δ : Type} (o : Option (β × γ × δ)) (k : β → γ → δ → Option α) : Option α := match o with
  | none => none
  | some (a, b, c) => k a b c
theorem bd1_e {α β : Type} {o : Option β} {k : β → Option α} {z : α} {P : Prop} (hf : bd1 o k = some z) (kk : ∀ a, o = some a → k a = some z → P) : P := by
  cases o with
  | none => cases hf
  | some a => exact kk a rfl hf
theorem bd2_e {α β γ : Type} {o : Option (β × γ)} {k : β → γ → Option α} {z : α} {P : Prop} (hf : bd2 o k = some z) (kk : ∀ a b, o = some (a, b) → k a b = some z → P) : P := by
  cases o with
  | none => cases hf
  | some a => exact kk a.1 a.2 rfl hf
theorem bd3_e {α β γ δ : Type} {o : Option (β × γ × δ)} {k : β → γ → δ → Option α} {z : α} {P : Prop} (hf : bd3 o k = some z) (kk : ∀ a b c, o = some (a, b, c) → k a b c = some z → P) : P := by
  cases o with
  | none => cases hf
  | some a => exact kk a.1 a.2.1 a.2.2 rfl hf
theorem none_e {α : Type} {z : α} {P : Prop} (hf : (none : Option α) = some z) : P := by cases hf
section R2
variable {S : Type} {X : XT} {hd : Cond} {cc : ByteArray} {nL : Nat} {own : String} {fr lo : Nat} {I : S → Heap → List Loc → Prop} {Q : State → Prop} {pc : Nat} {lv : List (Nat × Value)} {st : List Value} {σ σ2 : S}
theorem p_ishl (C : Cx X hd cc nL own fr lo) {x y : Int32} (hdg : decode cc pc = .ok (.ishl, 1)) (kk : Wm X nL I Q (pc + 1) lv (.int (ishl x y) :: st) σ) : Wm X nL I Q pc lv (.int y :: .int x :: st) σ := r_ishl C hdg kk
theorem p_ishr (C : Cx X hd cc nL own fr lo) {x y : Int32} (hdg : decode cc pc = .ok (.ishr, 1)) (kk : Wm X nL I Q (pc + 1) lv (.int (ishr x y) :: st) σ) : Wm X nL I Q pc lv (.int y :: .int x :: st) σ := r_ishr C hdg kk
theorem p_iushr (C : Cx X hd cc nL own fr lo) {x y : Int32} (hdg : decode cc pc = .ok (.iushr, 1)) (kk : Wm X nL I Q (pc + 1) lv (.int (iushr x y) :: st) σ) : Wm X nL I Q pc lv (.int y :: .int x :: st) σ := r_iushr C hdg kk
theorem p_irem (C : Cx X hd cc nL own fr lo) {x y : Int32} (hdg : decode cc pc = .ok (.irem, 1)) (hne : ¬ y = 0) (kk : Wm X nL I Q (pc + 1) lv (.int (irem x y) :: st) σ) : Wm X nL I Q pc lv (.int y :: .int x :: st) σ := r_irem C hdg hne kk
theorem p_lrem (C : Cx X hd cc nL own fr lo) {x y : Int64} (hdg : decode cc pc = .ok (.lrem, 1)) (hne : ¬ y = 0) (kk : Wm X nL I Q (pc + 1) lv (.long (lrem x y) :: st) σ) : Wm X nL I Q pc lv (.long y :: .long x :: st) σ := r_lrem C hdg hne kk
theorem p_lshl (C : Cx X hd cc nL own fr lo) {x : Int64} {y : Int32} (hdg : decode cc pc = .ok (.lshl, 1)) (kk : Wm X nL I Q (pc + 1) lv (.long (lshl x y) :: st) σ) : Wm X nL I Q pc lv (.int y :: .long x :: st) σ := r_lshl C hdg kk
theorem p_i2c (C : Cx X hd cc nL own fr lo) {x : Int32} (hdg : decode cc pc = .ok (.i2c, 1)) (kk : Wm X nL I Q (pc + 1) lv (.int (i2c x) :: st) σ) : Wm X nL I Q pc lv (.int x :: st) σ := r_i2c C hdg kk
theorem p_i2b (C : Cx X hd cc nL own fr lo) {x : Int32} (hdg : decode cc pc = .ok (.i2b, 1)) (kk : Wm X nL I Q (pc + 1) lv (.int (i2b x) :: st) σ) : Wm X nL I Q pc lv (.int x :: st) σ := r_i2b C hdg kk
/-- ends -/
def RI (X : XT) (nL : Nat) (cc : ByteArray) (I : S → Heap → List Loc → Prop) (Q : State → Prop) (ty : FieldType) (r : Int32) (σ : S) : Prop := ∀ (pc : Nat) (lv : List (Nat × Value)), decode cc pc = .ok (.ireturn, 1) → narrow ty (.int r) = .int r → Wm X nL I Q pc lv [.int r] σ
def RLo (X : XT) (nL : Nat) (cc : ByteArray) (I : S → Heap → List Loc → Prop) (Q : State → Prop) (r : Int64) (σ : S) : Prop := ∀ (pc : Nat) (lv : List (Nat × Value)), decode cc pc = .ok (.lreturn, 1) → Wm X nL I Q pc lv [.long r] σ
def RV (X : XT) (nL : Nat) (cc : ByteArray) (I : S → Heap → List Loc → Prop) (Q : State → Prop) (σ : S) : Prop := ∀ (pc : Nat) (lv : List (Nat × Value)), decode cc pc = .ok (.return_, 1) → Wm X nL I Q pc lv [] σ
theorem ri_OW {ty : FieldType} {r v : Int32} (h : RI X nL cc I Q ty r σ2) (hf : some (v, σ) = some (r, σ2)) (hdg : decode cc pc = .ok (.ireturn, 1)) (hn : narrow ty (.int v) = .int v) : Wm X nL I Q pc lv [.int v] σ := by
  cases hf
  exact h _ _ hdg hn
theorem ri_OR {ty : FieldType} {r v : Int32} (h : RI X nL cc I Q ty r σ) (hf : some v = some r) (hdg : decode cc pc = .ok (.ireturn, 1)) (hn : narrow ty (.int v) = .int v) : Wm X nL I Q pc lv [.int v] σ := by
  cases hf
  exact h _ _ hdg hn
theorem ri_T {ty : FieldType} {r v : Int32} (h : RI X nL cc I Q ty r σ) (hf : v = r) (hdg : decode cc pc = .ok (.ireturn, 1)) (hn : narrow ty (.int v) = .int v) : Wm X nL I Q pc lv [.int v] σ := by
  cases hf
  exact h _ _ hdg hn
theorem rl_OW {r v : Int64} (h : RLo X nL cc I Q r σ2) (hf : some (v, σ) = some (r, σ2)) (hdg : decode cc pc = .ok (.lreturn, 1)) : Wm X nL I Q pc lv [.long v] σ := by
  cases hf
  exact h _ _ hdg
theorem rl_OR {r v : Int64} (h : RLo X nL cc I Q r σ) (hf : some v = some r) (hdg : decode cc pc = .ok (.lreturn, 1)) : Wm X nL I Q pc lv [.long v] σ := by
  cases hf
  exact h _ _ hdg
theorem rl_T {r v : Int64} (h : RLo X nL cc I Q r σ) (hf : v = r) (hdg : decode cc pc = .ok (.lreturn, 1)) : Wm X nL I Q pc lv [.long v] σ := by
  cases hf
  exact h _ _ hdg
theorem rv_OV (h : RV X nL cc I Q σ2) (hf : some σ = some σ2) (hdg : decode cc pc = .ok (.return_, 1)) : Wm X nL I Q pc lv [] σ := by
  cases hf
  exact h _ _ hdg
theorem rv_TW (h : RV X nL cc I Q σ2) (hf : σ = σ2) (hdg : decode cc pc = .ok (.return_, 1)) : Wm X nL I Q pc lv [] σ := by
  cases hf
  exact h _ _ hdg
end R2
section CR
variable {X : XT} {hd : Cond} {cc : ByteArray} {nL : Nat} {own : String} {fr lo : Nat} {Q : State → Prop} {pc : Nat} {lv : List (Nat × Value)} {st rest : List Value} {E : EvT} {Z : Nat → Prop} {F : FT} {V V2 : Nat → Nat → Int32} {L L2 : Nat → Int64} {A : Nat → Nat} {j : Nat} {c c2 : Nat → Int32}
variable {y : MethodName} {bytes : ByteArray} {mL n idx : Nat} {rt : Option FieldType} {Cc : String} {rm : Room} {b : Nat} {As : List Value} {q ci N : Nat} {fs : List Value} {T : u_T}
theorem f_callI (C : Cx X hd cc nL own fr lo) (K : Ck X E Z) (cal : Cal own idx Cc y bytes mL rt n) (hrm : Rmf rm mL fr lo) {r : Int32} (hM : KI X.2.1 y (.code y bytes mL rt :: wA) rm E (F V L) (F V2 L2) (.ref b :: As) r) (he : (F V L)[q]? = some (b, .inr (ci, fs))) (hcl : vwCl[ci]? = some (Cc, T, N)) (hfst : (F V L).map Prod.fst = (F V2 L2).map Prod.fst) (hn : As.length = n) (hst : st = As.reverse ++ .ref b :: rest) (hrest : (rest.map fun v => v.category).sum ≤ 8) (hdg : decode cc pc = .ok (.invokevirtual idx, 3)) (kk : Wm X nL (IF X E Z F) Q (pc + 3) lv (.int r :: rest) (V2, L2)) : Wm X nL (IF X E Z F) Q pc lv st (V, L) :=
  fun H locs ls hI hl => call_I C K cal hrm hM he hcl hfst hn hst hrest hdg hI hl (fun H1 l1 h => kk H1 l1 ls h hl)
theorem f_callL (C : Cx X hd cc nL own fr lo) (K : Ck X E Z) (cal : Cal own idx Cc y bytes mL rt n) (hrm : Rmf rm mL fr lo) {r : Int64} (hM : KL X.2.1 y (.code y bytes mL rt :: wA) rm E (F V L) (F V2 L2) (.ref b :: As) r) (he : (F V L)[q]? = some (b, .inr (ci, fs))) (hcl : vwCl[ci]? = some (Cc, T, N)) (hfst : (F V L).map Prod.fst = (F V2 L2).map Prod.fst) (hn : As.length = n) (hst : st = As.reverse ++ .ref b :: rest) (hrest : (rest.map fun v => v.category).sum ≤ 8) (hdg : decode cc pc = .ok (.invokevirtual idx, 3)) (kk : Wm X nL (IF X E Z F) Q (pc + 3) lv (.long r :: rest) (V2, L2)) : Wm X nL (IF X E Z F) Q pc lv st (V, L) :=
  fun H locs ls hI hl => call_L C K cal hrm hM he hcl hfst hn hst hrest hdg hI hl (fun H1 l1 h => kk H1 l1 ls h hl)
theorem f_callV (C : Cx X hd cc nL own fr lo) (K : Ck X E Z) (cal : Cal own idx Cc y bytes mL rt n) (hrm : Rmf rm mL fr lo) (hM : KV X.2.1 y (.code y bytes mL rt :: wA) rm E (F V L) (F V2 L2) (.ref b :: As)) (he : (F V L)[q]? = some (b, .inr (ci, fs))) (hcl : vwCl[ci]? = some (Cc, T, N)) (hfst : (F V L).map Prod.fst = (F V2 L2).map Prod.fst) (hn : As.length = n) (hst : st = As.reverse ++ .ref b :: rest) (hrest : (rest.map fun v => v.category).sum ≤ 8) (hdg : decode cc pc = .ok (.invokevirtual idx, 3)) (kk : Wm X nL (IF X E Z F) Q (pc + 3) lv rest (V2, L2)) : Wm X nL (IF X E Z F) Q pc lv st (V, L) :=
  fun H locs ls hI hl => call_V C K cal hrm hM he hcl hfst hn hst hrest hdg hI hl (fun H1 l1 h => kk H1 l1 ls h hl)
/-- a circle calls itself -/
theorem c_callI (C : Cx X hd cc nL own fr lo) (K : Ck X E Z) (hj : isCirc j) (cal : Cal own idx RX0 y bytes mL rt n) (hrm : Rmf rm mL fr lo) {r : Int32} (hM : KI X.2.1 y (.code y bytes mL rt :: wA) rm E (cw E A (setc V j c) L) (cw E A (setc V j c2) L) (.ref (A j) :: As) r) (hn : As.length = n) (hst : st = As.reverse ++ .ref (A j) :: rest) (hrest : (rest.map fun v => v.category).sum ≤ 8) (hdg : decode cc pc = .ok (.invokevirtual idx, 3)) (kk : Wm X nL (IC X E Z A V L j) Q (pc + 3) lv (.int r :: rest) c2) : Wm X nL (IC X E Z A V L j) Q pc lv st c :=
  fun H locs ls hI hl => call_I C K cal hrm hM (cw_c hj E A (setc V j c) L) rfl (cw_fst _ _ _ _ _ _) hn hst hrest hdg hI hl (fun H1 l1 h => kk H1 l1 ls h hl)
theorem c_callL (C : Cx X hd cc nL own fr lo) (K : Ck X E Z) (hj : isCirc j) (cal : Cal own idx RX0 y bytes mL rt n) (hrm : Rmf rm mL fr lo) {r : Int64} (hM : KL X.2.1 y (.code y bytes mL rt :: wA) rm E (cw E A (setc V j c) L) (cw E A (setc V j c2) L) (.ref (A j) :: As) r) (hn : As.length = n) (hst : st = As.reverse ++ .ref (A j) :: rest) (hrest : (rest.map fun v => v.category).sum ≤ 8) (hdg : decode cc pc = .ok (.invokevirtual idx, 3)) (kk : Wm X nL (IC X E Z A V L j) Q (pc + 3) lv (.long r :: rest) c2) : Wm X nL (IC X E Z A V L j) Q pc lv st c :=
  fun H locs ls hI hl => call_L C K cal hrm hM (cw_c hj E A (setc V j c) L) rfl (cw_fst _ _ _ _ _ _) hn hst hrest hdg hI hl (fun H1 l1 h => kk H1 l1 ls h hl)
theorem c_callV (C : Cx X hd cc nL own fr lo) (K : Ck X E Z) (hj : isCirc j) (cal : Cal own idx RX0 y bytes mL rt n) (hrm : Rmf rm mL fr lo) (hM : KV X.2.1 y (.code y bytes mL rt :: wA) rm E (cw E A (setc V j c) L) (cw E A (setc V j c2) L) (.ref (A j) :: As)) (hn : As.length = n) (hst : st = As.reverse ++ .ref (A j) :: rest) (hrest : (rest.map fun v => v.category).sum ≤ 8) (hdg : decode cc pc = .ok (.invokevirtual idx, 3)) (kk : Wm X nL (IC X E Z A V L j) Q (pc + 3) lv rest c2) : Wm X nL (IC X E Z A V L j) Q pc lv st c :=
  fun H locs ls hI hl => call_V C K cal hrm hM (cw_c hj E A (setc V j c) L) rfl (cw_fst _ _ _ _ _ _) hn hst hrest hdg hI hl (fun H1 l1 h => kk H1 l1 ls h hl)
/-- another object calls the circle at j -/
theorem s_callI (C : Cx X hd cc nL own fr lo) (K : Ck X E Z) (hj : isCirc j) (cal : Cal own idx RX0 y bytes mL rt n) (hrm : Rmf rm mL fr lo) {r : Int32} (hM : KI X.2.1 y (.code y bytes mL rt :: wA) rm E (cw E A (setc V j (V j)) L) (cw E A V2 L) (.ref (A j) :: As) r) (hn : As.length = n) (hst : st = As.reverse ++ .ref (A j) :: rest) (hrest : (rest.map fun v => v.category).sum ≤ 8) (hdg : decode cc pc = .ok (.invokevirtual idx, 3)) (kk : Wm X nL (IF X E Z (cw E A)) Q (pc + 3) lv (.int r :: rest) (V2, L)) : Wm X nL (IF X E Z (cw E A)) Q pc lv st (V, L) := by
  rw [setc_self] at hM
  exact fun H locs ls hI hl => call_I C K cal hrm hM (cw_c hj E A V L) rfl (cw_fst _ _ _ _ _ _) hn hst hrest hdg hI hl (fun H1 l1 h => kk H1 l1 ls h hl)
theorem s_callL (C : Cx X hd cc nL own fr lo) (K : Ck X E Z) (hj : isCirc j) (cal : Cal own idx RX0 y bytes mL rt n) (hrm : Rmf rm mL fr lo) {r : Int64} (hM : KL X.2.1 y (.code y bytes mL rt :: wA) rm E (cw E A (setc V j (V j)) L) (cw E A V2 L) (.ref (A j) :: As) r) (hn : As.length = n) (hst : st = As.reverse ++ .ref (A j) :: rest) (hrest : (rest.map fun v => v.category).sum ≤ 8) (hdg : decode cc pc = .ok (.invokevirtual idx, 3)) (kk : Wm X nL (IF X E Z (cw E A)) Q (pc + 3) lv (.long r :: rest) (V2, L)) : Wm X nL (IF X E Z (cw E A)) Q pc lv st (V, L) := by
  rw [setc_self] at hM
  exact fun H locs ls hI hl => call_L C K cal hrm hM (cw_c hj E A V L) rfl (cw_fst _ _ _ _ _ _) hn hst hrest hdg hI hl (fun H1 l1 h => kk H1 l1 ls h hl)
theorem s_callV (C : Cx X hd cc nL own fr lo) (K : Ck X E Z) (hj : isCirc j) (cal : Cal own idx RX0 y bytes mL rt n) (hrm : Rmf rm mL fr lo) (hM : KV X.2.1 y (.code y bytes mL rt :: wA) rm E (cw E A (setc V j (V j)) L) (cw E A V2 L) (.ref (A j) :: As)) (hn : As.length = n) (hst : st = As.reverse ++ .ref (A j) :: rest) (hrest : (rest.map fun v => v.category).sum ≤ 8) (hdg : decode cc pc = .ok (.invokevirtual idx, 3)) (kk : Wm X nL (IF X E Z (cw E A)) Q (pc + 3) lv rest (V2, L)) : Wm X nL (IF X E Z (cw E A)) Q pc lv st (V, L) := by
  rw [setc_self] at hM
  exact fun H locs ls hI hl => call_V C K cal hrm hM (cw_c hj E A V L) rfl (cw_fst _ _ _ _ _ _) hn hst hrest hdg hI hl (fun H1 l1 h => kk H1 l1 ls h hl)
end CR
theorem jc6 : isCirc 6 := Or.inl rfl
theorem jc11 : isCirc 11 := Or.inr (Or.inl rfl)
theorem jc16 : isCirc 16 := Or.inr (Or.inr rfl)

theorem cw_o0 (E : EvT) (A : Nat → Nat) (V : Nat → Nat → Int32) (L : Nat → Int64) : (cw E A V L)[0]? = some (A 0, .inr (4, [.ref (A 1), .ref (A 5), .ref (A 10), .ref (A 15), .int (V 0 4), .int (V 0 5)])) := rfl
theorem cw_o1 (E : EvT) (A : Nat → Nat) (V : Nat → Nat → Int32) (L : Nat → Int64) : (cw E A V L)[1]? = some (A 1, .inr (2, [.ref (A 2), .int (V 1 1), .int (V 1 2), .int (V 1 3), .ref (A 3), .int (V 1 5), .ref (A 4), .int (V 1 7)])) := rfl
theorem cw_a2 (E : EvT) (A : Nat → Nat) (V : Nat → Nat → Int32) (L : Nat → Int64) : (cw E A V L)[2]? = some (A 2, .inl (E.2.1, 20, .inl (V 2))) := rfl
theorem cw_s2 (E : EvT) (A : Nat → Nat) (V : Nat → Nat → Int32) (L : Nat → Int64) (g : Nat → Int32) : (cw E A V L).set 2 (A 2, .inl (E.2.1, 20, .inl g)) = cw E A (setc V 2 g) L := rfl
theorem cw_a3 (E : EvT) (A : Nat → Nat) (V : Nat → Nat → Int32) (L : Nat → Int64) : (cw E A V L)[3]? = some (A 3, .inl (E.2.1, 3, .inl (V 3))) := rfl
theorem cw_s3 (E : EvT) (A : Nat → Nat) (V : Nat → Nat → Int32) (L : Nat → Int64) (g : Nat → Int32) : (cw E A V L).set 3 (A 3, .inl (E.2.1, 3, .inl g)) = cw E A (setc V 3 g) L := rfl
theorem cw_a4 (E : EvT) (A : Nat → Nat) (V : Nat → Nat → Int32) (L : Nat → Int64) : (cw E A V L)[4]? = some (A 4, .inl (E.2.1, 8, .inl (V 4))) := rfl
theorem cw_s4 (E : EvT) (A : Nat → Nat) (V : Nat → Nat → Int32) (L : Nat → Int64) (g : Nat → Int32) : (cw E A V L).set 4 (A 4, .inl (E.2.1, 8, .inl g)) = cw E A (setc V 4 g) L := rfl
theorem cw_o5 (E : EvT) (A : Nat → Nat) (V : Nat → Nat → Int32) (L : Nat → Int64) : (cw E A V L)[5]? = some (A 5, .inr (3, [.ref (A 6), .ref (A 7), .int (V 5 2), .int (V 5 3), .ref (A 8), .ref (A 9), .int (V 5 6)])) := rfl
theorem cw_o6 (E : EvT) (A : Nat → Nat) (V : Nat → Nat → Int32) (L : Nat → Int64) : (cw E A V L)[6]? = some (A 6, .inr (0, cfs (V 6))) := rfl
theorem cw_a7 (E : EvT) (A : Nat → Nat) (V : Nat → Nat → Int32) (L : Nat → Int64) : (cw E A V L)[7]? = some (A 7, .inl (E.2.1, 3, .inl (V 7))) := rfl
theorem cw_s7 (E : EvT) (A : Nat → Nat) (V : Nat → Nat → Int32) (L : Nat → Int64) (g : Nat → Int32) : (cw E A V L).set 7 (A 7, .inl (E.2.1, 3, .inl g)) = cw E A (setc V 7 g) L := rfl
theorem cw_a8 (E : EvT) (A : Nat → Nat) (V : Nat → Nat → Int32) (L : Nat → Int64) : (cw E A V L)[8]? = some (A 8, .inl (E.2.1, 6, .inl (V 8))) := rfl
theorem cw_s8 (E : EvT) (A : Nat → Nat) (V : Nat → Nat → Int32) (L : Nat → Int64) (g : Nat → Int32) : (cw E A V L).set 8 (A 8, .inl (E.2.1, 6, .inl g)) = cw E A (setc V 8 g) L := rfl
theorem cw_a9 (E : EvT) (A : Nat → Nat) (V : Nat → Nat → Int32) (L : Nat → Int64) : (cw E A V L)[9]? = some (A 9, .inl (E.2.1, 6, .inl (V 9))) := rfl
theorem cw_s9 (E : EvT) (A : Nat → Nat) (V : Nat → Nat → Int32) (L : Nat → Int64) (g : Nat → Int32) : (cw E A V L).set 9 (A 9, .inl (E.2.1, 6, .inl g)) = cw E A (setc V 9 g) L := rfl
theorem cw_o10 (E : EvT) (A : Nat → Nat) (V : Nat → Nat → Int32) (L : Nat → Int64) : (cw E A V L)[10]? = some (A 10, .inr (3, [.ref (A 11), .ref (A 12), .int (V 10 2), .int (V 10 3), .ref (A 13), .ref (A 14), .int (V 10 6)])) := rfl
theorem cw_o11 (E : EvT) (A : Nat → Nat) (V : Nat → Nat → Int32) (L : Nat → Int64) : (cw E A V L)[11]? = some (A 11, .inr (0, cfs (V 11))) := rfl
theorem cw_a12 (E : EvT) (A : Nat → Nat) (V : Nat → Nat → Int32) (L : Nat → Int64) : (cw E A V L)[12]? = some (A 12, .inl (E.2.1, 3, .inl (V 12))) := rfl
theorem cw_s12 (E : EvT) (A : Nat → Nat) (V : Nat → Nat → Int32) (L : Nat → Int64) (g : Nat → Int32) : (cw E A V L).set 12 (A 12, .inl (E.2.1, 3, .inl g)) = cw E A (setc V 12 g) L := rfl
theorem cw_a13 (E : EvT) (A : Nat → Nat) (V : Nat → Nat → Int32) (L : Nat → Int64) : (cw E A V L)[13]? = some (A 13, .inl (E.2.1, 6, .inl (V 13))) := rfl
theorem cw_s13 (E : EvT) (A : Nat → Nat) (V : Nat → Nat → Int32) (L : Nat → Int64) (g : Nat → Int32) : (cw E A V L).set 13 (A 13, .inl (E.2.1, 6, .inl g)) = cw E A (setc V 13 g) L := rfl
theorem cw_a14 (E : EvT) (A : Nat → Nat) (V : Nat → Nat → Int32) (L : Nat → Int64) : (cw E A V L)[14]? = some (A 14, .inl (E.2.1, 6, .inl (V 14))) := rfl
theorem cw_s14 (E : EvT) (A : Nat → Nat) (V : Nat → Nat → Int32) (L : Nat → Int64) (g : Nat → Int32) : (cw E A V L).set 14 (A 14, .inl (E.2.1, 6, .inl g)) = cw E A (setc V 14 g) L := rfl
theorem cw_o15 (E : EvT) (A : Nat → Nat) (V : Nat → Nat → Int32) (L : Nat → Int64) : (cw E A V L)[15]? = some (A 15, .inr (1, [.ref (A 5), .ref (A 16), .ref (A 17), .long (L 3), .ref (A 18), .long (L 5), .ref (A 19), .int (V 15 7)])) := rfl
theorem cw_o16 (E : EvT) (A : Nat → Nat) (V : Nat → Nat → Int32) (L : Nat → Int64) : (cw E A V L)[16]? = some (A 16, .inr (0, cfs (V 16))) := rfl
theorem cw_a17 (E : EvT) (A : Nat → Nat) (V : Nat → Nat → Int32) (L : Nat → Int64) : (cw E A V L)[17]? = some (A 17, .inl (E.2.1, 61, .inl (V 17))) := rfl
theorem cw_s17 (E : EvT) (A : Nat → Nat) (V : Nat → Nat → Int32) (L : Nat → Int64) (g : Nat → Int32) : (cw E A V L).set 17 (A 17, .inl (E.2.1, 61, .inl g)) = cw E A (setc V 17 g) L := rfl
theorem cw_a18 (E : EvT) (A : Nat → Nat) (V : Nat → Nat → Int32) (L : Nat → Int64) : (cw E A V L)[18]? = some (A 18, .inl (E.2.1, 8, .inl (V 18))) := rfl
theorem cw_s18 (E : EvT) (A : Nat → Nat) (V : Nat → Nat → Int32) (L : Nat → Int64) (g : Nat → Int32) : (cw E A V L).set 18 (A 18, .inl (E.2.1, 8, .inl g)) = cw E A (setc V 18 g) L := rfl
theorem cw_a19 (E : EvT) (A : Nat → Nat) (V : Nat → Nat → Int32) (L : Nat → Int64) : (cw E A V L)[19]? = some (A 19, .inl (E.2.1, 8, .inl (V 19))) := rfl
theorem cw_s19 (E : EvT) (A : Nat → Nat) (V : Nat → Nat → Int32) (L : Nat → Int64) (g : Nat → Int32) : (cw E A V L).set 19 (A 19, .inl (E.2.1, 8, .inl g)) = cw E A (setc V 19 g) L := rfl
theorem mw_o0 (E : EvT) (A : Nat → Nat) (V : Nat → Nat → Int32) (L : Nat → Int64) : (mw E A V L)[0]? = some (A 0, .inr (5, mfs A V L)) := rfl
theorem mw_a3 (E : EvT) (A : Nat → Nat) (V : Nat → Nat → Int32) (L : Nat → Int64) : (mw E A V L)[1]? = some (A 3, .inl (E.2.1, 3, .inl (V 3))) := rfl
theorem mw_s3 (E : EvT) (A : Nat → Nat) (V : Nat → Nat → Int32) (L : Nat → Int64) (g : Nat → Int32) : (mw E A V L).set 1 (A 3, .inl (E.2.1, 3, .inl g)) = mw E A (setc V 3 g) L := rfl
theorem mw_a4 (E : EvT) (A : Nat → Nat) (V : Nat → Nat → Int32) (L : Nat → Int64) : (mw E A V L)[2]? = some (A 4, .inl (E.2.1, 9, .inl (V 4))) := rfl
theorem mw_s4 (E : EvT) (A : Nat → Nat) (V : Nat → Nat → Int32) (L : Nat → Int64) (g : Nat → Int32) : (mw E A V L).set 2 (A 4, .inl (E.2.1, 9, .inl g)) = mw E A (setc V 4 g) L := rfl
theorem mw_a11 (E : EvT) (A : Nat → Nat) (V : Nat → Nat → Int32) (L : Nat → Int64) : (mw E A V L)[3]? = some (A 11, .inl (E.2.1, 6, .inl (V 11))) := rfl
theorem mw_s11 (E : EvT) (A : Nat → Nat) (V : Nat → Nat → Int32) (L : Nat → Int64) (g : Nat → Int32) : (mw E A V L).set 3 (A 11, .inl (E.2.1, 6, .inl g)) = mw E A (setc V 11 g) L := rfl
theorem mw_a12 (E : EvT) (A : Nat → Nat) (V : Nat → Nat → Int32) (L : Nat → Int64) : (mw E A V L)[4]? = some (A 12, .inl (E.2.1, 6, .inl (V 12))) := rfl
theorem mw_s12 (E : EvT) (A : Nat → Nat) (V : Nat → Nat → Int32) (L : Nat → Int64) (g : Nat → Int32) : (mw E A V L).set 4 (A 12, .inl (E.2.1, 6, .inl g)) = mw E A (setc V 12 g) L := rfl
theorem mw_a14 (E : EvT) (A : Nat → Nat) (V : Nat → Nat → Int32) (L : Nat → Int64) : (mw E A V L)[5]? = some (A 14, .inl (E.2.2.1, 20, .inl (V 14))) := rfl
theorem mw_s14 (E : EvT) (A : Nat → Nat) (V : Nat → Nat → Int32) (L : Nat → Int64) (g : Nat → Int32) : (mw E A V L).set 5 (A 14, .inl (E.2.2.1, 20, .inl g)) = mw E A (setc V 14 g) L := rfl
theorem mw_a22 (E : EvT) (A : Nat → Nat) (V : Nat → Nat → Int32) (L : Nat → Int64) : (mw E A V L)[6]? = some (A 22, .inl (E.2.1, 2187, .inl (V 22))) := rfl
theorem mw_s22 (E : EvT) (A : Nat → Nat) (V : Nat → Nat → Int32) (L : Nat → Int64) (g : Nat → Int32) : (mw E A V L).set 6 (A 22, .inl (E.2.1, 2187, .inl g)) = mw E A (setc V 22 g) L := rfl
theorem mw_a24 (E : EvT) (A : Nat → Nat) (V : Nat → Nat → Int32) (L : Nat → Int64) : (mw E A V L)[7]? = some (A 24, .inl (E.2.1, 8, .inl (V 24))) := rfl
theorem mw_s24 (E : EvT) (A : Nat → Nat) (V : Nat → Nat → Int32) (L : Nat → Int64) (g : Nat → Int32) : (mw E A V L).set 7 (A 24, .inl (E.2.1, 8, .inl g)) = mw E A (setc V 24 g) L := rfl
theorem mw_a25 (E : EvT) (A : Nat → Nat) (V : Nat → Nat → Int32) (L : Nat → Int64) : (mw E A V L)[8]? = some (A 25, .inl (E.2.1, 8, .inl (V 25))) := rfl
theorem mw_s25 (E : EvT) (A : Nat → Nat) (V : Nat → Nat → Int32) (L : Nat → Int64) (g : Nat → Int32) : (mw E A V L).set 8 (A 25, .inl (E.2.1, 8, .inl g)) = mw E A (setc V 25 g) L := rfl
theorem mw_a26 (E : EvT) (A : Nat → Nat) (V : Nat → Nat → Int32) (L : Nat → Int64) : (mw E A V L)[9]? = some (A 26, .inl (E.2.1, 8, .inl (V 26))) := rfl
theorem mw_s26 (E : EvT) (A : Nat → Nat) (V : Nat → Nat → Int32) (L : Nat → Int64) (g : Nat → Int32) : (mw E A V L).set 9 (A 26, .inl (E.2.1, 8, .inl g)) = mw E A (setc V 26 g) L := rfl
theorem mw_a27 (E : EvT) (A : Nat → Nat) (V : Nat → Nat → Int32) (L : Nat → Int64) : (mw E A V L)[10]? = some (A 27, .inl (E.2.1, 8, .inl (V 27))) := rfl
theorem mw_s27 (E : EvT) (A : Nat → Nat) (V : Nat → Nat → Int32) (L : Nat → Int64) (g : Nat → Int32) : (mw E A V L).set 10 (A 27, .inl (E.2.1, 8, .inl g)) = mw E A (setc V 27 g) L := rfl
theorem mw_a28 (E : EvT) (A : Nat → Nat) (V : Nat → Nat → Int32) (L : Nat → Int64) : (mw E A V L)[11]? = some (A 28, .inl (E.2.1, 8, .inl (V 28))) := rfl
theorem mw_s28 (E : EvT) (A : Nat → Nat) (V : Nat → Nat → Int32) (L : Nat → Int64) (g : Nat → Int32) : (mw E A V L).set 11 (A 28, .inl (E.2.1, 8, .inl g)) = mw E A (setc V 28 g) L := rfl
theorem mw_a29 (E : EvT) (A : Nat → Nat) (V : Nat → Nat → Int32) (L : Nat → Int64) : (mw E A V L)[12]? = some (A 29, .inl (E.2.1, 8, .inl (V 29))) := rfl
theorem mw_s29 (E : EvT) (A : Nat → Nat) (V : Nat → Nat → Int32) (L : Nat → Int64) (g : Nat → Int32) : (mw E A V L).set 12 (A 29, .inl (E.2.1, 8, .inl g)) = mw E A (setc V 29 g) L := rfl
theorem mw_a30 (E : EvT) (A : Nat → Nat) (V : Nat → Nat → Int32) (L : Nat → Int64) : (mw E A V L)[13]? = some (A 30, .inl (E.2.1, 24, .inl (V 30))) := rfl
theorem mw_s30 (E : EvT) (A : Nat → Nat) (V : Nat → Nat → Int32) (L : Nat → Int64) (g : Nat → Int32) : (mw E A V L).set 13 (A 30, .inl (E.2.1, 24, .inl g)) = mw E A (setc V 30 g) L := rfl
theorem mw_a31 (E : EvT) (A : Nat → Nat) (V : Nat → Nat → Int32) (L : Nat → Int64) : (mw E A V L)[14]? = some (A 31, .inl (E.2.1, 24, .inl (V 31))) := rfl
theorem mw_s31 (E : EvT) (A : Nat → Nat) (V : Nat → Nat → Int32) (L : Nat → Int64) (g : Nat → Int32) : (mw E A V L).set 14 (A 31, .inl (E.2.1, 24, .inl g)) = mw E A (setc V 31 g) L := rfl
theorem mw_a32 (E : EvT) (A : Nat → Nat) (V : Nat → Nat → Int32) (L : Nat → Int64) : (mw E A V L)[15]? = some (A 32, .inl (E.2.1, 24, .inl (V 32))) := rfl
theorem mw_s32 (E : EvT) (A : Nat → Nat) (V : Nat → Nat → Int32) (L : Nat → Int64) (g : Nat → Int32) : (mw E A V L).set 15 (A 32, .inl (E.2.1, 24, .inl g)) = mw E A (setc V 32 g) L := rfl
theorem mw_a33 (E : EvT) (A : Nat → Nat) (V : Nat → Nat → Int32) (L : Nat → Int64) : (mw E A V L)[16]? = some (A 33, .inl (E.2.1, 24, .inl (V 33))) := rfl
theorem mw_s33 (E : EvT) (A : Nat → Nat) (V : Nat → Nat → Int32) (L : Nat → Int64) (g : Nat → Int32) : (mw E A V L).set 16 (A 33, .inl (E.2.1, 24, .inl g)) = mw E A (setc V 33 g) L := rfl
theorem mw_a34 (E : EvT) (A : Nat → Nat) (V : Nat → Nat → Int32) (L : Nat → Int64) : (mw E A V L)[17]? = some (A 34, .inl (E.2.1, 8, .inl (V 34))) := rfl
theorem mw_s34 (E : EvT) (A : Nat → Nat) (V : Nat → Nat → Int32) (L : Nat → Int64) (g : Nat → Int32) : (mw E A V L).set 17 (A 34, .inl (E.2.1, 8, .inl g)) = mw E A (setc V 34 g) L := rfl
theorem mw_a35 (E : EvT) (A : Nat → Nat) (V : Nat → Nat → Int32) (L : Nat → Int64) : (mw E A V L)[18]? = some (A 35, .inl (E.2.1, 8, .inl (V 35))) := rfl
theorem mw_s35 (E : EvT) (A : Nat → Nat) (V : Nat → Nat → Int32) (L : Nat → Int64) (g : Nat → Int32) : (mw E A V L).set 18 (A 35, .inl (E.2.1, 8, .inl g)) = mw E A (setc V 35 g) L := rfl
theorem mw_a45 (E : EvT) (A : Nat → Nat) (V : Nat → Nat → Int32) (L : Nat → Int64) : (mw E A V L)[19]? = some (A 45, .inl (E.2.1, 8, .inl (V 45))) := rfl
theorem mw_s45 (E : EvT) (A : Nat → Nat) (V : Nat → Nat → Int32) (L : Nat → Int64) (g : Nat → Int32) : (mw E A V L).set 19 (A 45, .inl (E.2.1, 8, .inl g)) = mw E A (setc V 45 g) L := rfl
theorem mw_a46 (E : EvT) (A : Nat → Nat) (V : Nat → Nat → Int32) (L : Nat → Int64) : (mw E A V L)[20]? = some (A 46, .inl (E.2.1, 3, .inl (V 46))) := rfl
theorem mw_s46 (E : EvT) (A : Nat → Nat) (V : Nat → Nat → Int32) (L : Nat → Int64) (g : Nat → Int32) : (mw E A V L).set 20 (A 46, .inl (E.2.1, 3, .inl g)) = mw E A (setc V 46 g) L := rfl
theorem mw_a47 (E : EvT) (A : Nat → Nat) (V : Nat → Nat → Int32) (L : Nat → Int64) : (mw E A V L)[21]? = some (A 47, .inl (E.2.1, 6, .inl (V 47))) := rfl
theorem mw_s47 (E : EvT) (A : Nat → Nat) (V : Nat → Nat → Int32) (L : Nat → Int64) (g : Nat → Int32) : (mw E A V L).set 21 (A 47, .inl (E.2.1, 6, .inl g)) = mw E A (setc V 47 g) L := rfl
theorem mw_a48 (E : EvT) (A : Nat → Nat) (V : Nat → Nat → Int32) (L : Nat → Int64) : (mw E A V L)[22]? = some (A 48, .inl (E.2.1, 6, .inl (V 48))) := rfl
theorem mw_s48 (E : EvT) (A : Nat → Nat) (V : Nat → Nat → Int32) (L : Nat → Int64) (g : Nat → Int32) : (mw E A V L).set 22 (A 48, .inl (E.2.1, 6, .inl g)) = mw E A (setc V 48 g) L := rfl
theorem ki_m1 : Int32.ofInt (-1) = (-1) := by decide
theorem ki_0 : Int32.ofInt 0 = 0 := by decide
theorem ki_1 : Int32.ofInt 1 = 1 := by decide
theorem ki_2 : Int32.ofInt 2 = 2 := by decide
theorem ki_3 : Int32.ofInt 3 = 3 := by decide
theorem ki_4 : Int32.ofInt 4 = 4 := by decide
theorem ki_5 : Int32.ofInt 5 = 5 := by decide
theorem ki_8 : Int32.ofInt 8 = 8 := by decide
theorem ki_16 : Int32.ofInt 16 = 16 := by decide
theorem kb_m104 : (Int8.ofInt (-104)).toInt32 = (-104) := by decide
theorem kb_m103 : (Int8.ofInt (-103)).toInt32 = (-103) := by decide
theorem kb_m102 : (Int8.ofInt (-102)).toInt32 = (-102) := by decide
theorem kb_m101 : (Int8.ofInt (-101)).toInt32 = (-101) := by decide
theorem kb_6 : (Int8.ofInt 6).toInt32 = 6 := by decide
theorem kb_7 : (Int8.ofInt 7).toInt32 = 7 := by decide
theorem kb_8 : (Int8.ofInt 8).toInt32 = 8 := by decide
theorem kb_9 : (Int8.ofInt 9).toInt32 = 9 := by decide
theorem kb_10 : (Int8.ofInt 10).toInt32 = 10 := by decide
theorem kb_11 : (Int8.ofInt 11).toInt32 = 11 := by decide
theorem kb_15 : (Int8.ofInt 15).toInt32 = 15 := by decide
theorem kb_16 : (Int8.ofInt 16).toInt32 = 16 := by decide
theorem kb_18 : (Int8.ofInt 18).toInt32 = 18 := by decide
theorem kb_20 : (Int8.ofInt 20).toInt32 = 20 := by decide
theorem kb_22 : (Int8.ofInt 22).toInt32 = 22 := by decide
theorem kb_23 : (Int8.ofInt 23).toInt32 = 23 := by decide
theorem kb_24 : (Int8.ofInt 24).toInt32 = 24 := by decide
theorem kb_25 : (Int8.ofInt 25).toInt32 = 25 := by decide
theorem kb_31 : (Int8.ofInt 31).toInt32 = 31 := by decide
theorem kb_32 : (Int8.ofInt 32).toInt32 = 32 := by decide
theorem kb_44 : (Int8.ofInt 44).toInt32 = 44 := by decide
theorem kb_48 : (Int8.ofInt 48).toInt32 = 48 := by decide
theorem kb_57 : (Int8.ofInt 57).toInt32 = 57 := by decide
theorem kb_59 : (Int8.ofInt 59).toInt32 = 59 := by decide
theorem kb_60 : (Int8.ofInt 60).toInt32 = 60 := by decide
theorem kb_61 : (Int8.ofInt 61).toInt32 = 61 := by decide
theorem kb_63 : (Int8.ofInt 63).toInt32 = 63 := by decide
theorem kb_99 : (Int8.ofInt 99).toInt32 = 99 := by decide
theorem kb_126 : (Int8.ofInt 126).toInt32 = 126 := by decide
theorem ks_255 : (Int16.ofInt 255).toInt32 = 255 := by decide
theorem ks_256 : (Int16.ofInt 256).toInt32 = 256 := by decide
theorem ks_511 : (Int16.ofInt 511).toInt32 = 511 := by decide
theorem ks_999 : (Int16.ofInt 999).toInt32 = 999 := by decide
theorem ks_2187 : (Int16.ofInt 2187).toInt32 = 2187 := by decide
theorem kn_m1 (x : Int32) : x + Int32.ofInt (-1) = x + (-1) := by rw [ki_m1]
theorem kn_1 (x : Int32) : x + Int32.ofInt 1 = x + 1 := by rw [ki_1]
theorem kn_2 (x : Int32) : x + Int32.ofInt 2 = x + 2 := by rw [ki_2]
theorem kn_4 (x : Int32) : x + Int32.ofInt 4 = x + 4 := by rw [ki_4]
theorem kn_8 (x : Int32) : x + Int32.ofInt 8 = x + 8 := by rw [ki_8]
theorem kn_16 (x : Int32) : x + Int32.ofInt 16 = x + 16 := by rw [ki_16]
