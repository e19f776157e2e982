def cfs (c : Nat → Int32) : List Value := [.int (c 0), .int (c 1), .int (c 2), .int (c 3), .int (c 4), .int (c 5), .int (c 6), .int (c 7), .int (c 8)]
/-- the class's cells: 0 CountOut, 1 Page (2 letters, 3 beats, 4 kinds), 5 scene (6 circle, 7 beats, 8 from, 9 out), 10 kept (11, 12, 13, 14), 15 Foresight (16 trial, 17 lasts, 18 ways, 19 tally) -/
def cw (E : EvT) (A : Nat → Nat) (V : Nat → Nat → Int32) (L : Nat → Int64) : va_W := [(A 0, .inr (4, [.ref (A 1), .ref (A 5), .ref (A 10), .ref (A 15), .int (V 0 4), .int (V 0 5)])),
  (A 1, .inr (2, [.ref (A 2), .int (V 1 1), .int (V 1 2), .int (V 1 3), .ref (A 3), .int (V 1 5), .ref (A 4), .int (V 1 7)])),
  (A 2, .inl (E.2.1, 20, .inl (V 2))),
  (A 3, .inl (E.2.1, 3, .inl (V 3))),
  (A 4, .inl (E.2.1, 8, .inl (V 4))),
  (A 5, .inr (3, [.ref (A 6), .ref (A 7), .int (V 5 2), .int (V 5 3), .ref (A 8), .ref (A 9), .int (V 5 6)])),
  (A 6, .inr (0, cfs (V 6))),
  (A 7, .inl (E.2.1, 3, .inl (V 7))),
  (A 8, .inl (E.2.1, 6, .inl (V 8))),
  (A 9, .inl (E.2.1, 6, .inl (V 9))),
  (A 10, .inr (3, [.ref (A 11), .ref (A 12), .int (V 10 2), .int (V 10 3), .ref (A 13), .ref (A 14), .int (V 10 6)])),
  (A 11, .inr (0, cfs (V 11))),
  (A 12, .inl (E.2.1, 3, .inl (V 12))),
  (A 13, .inl (E.2.1, 6, .inl (V 13))),
  (A 14, .inl (E.2.1, 6, .inl (V 14))),
  (A 15, .inr (1, [.ref (A 5), .ref (A 16), .ref (A 17), .long (L 3), .ref (A 18), .long (L 5), .ref (A 19), .int (V 15 7)])),
  (A 16, .inr (0, cfs (V 16))),
  (A 17, .inl (E.2.1, 61, .inl (V 17))),
  (A 18, .inl (E.2.1, 8, .inl (V 18))),
  (A 19, .inl (E.2.1, 8, .inl (V 19)))]
def mfs (A : Nat → Nat) (V : Nat → Nat → Int32) (L : Nat → Int64) : List Value := [.int (V 0 0), .int (V 0 1), .int (V 0 2), .ref (A 3), .ref (A 4), .int (V 0 5), .int (V 0 6), .int (V 0 7), .int (V 0 8), .int (V 0 9), .int (V 0 10), .ref (A 11), .ref (A 12), .int (V 0 13), .ref (A 14), .int (V 0 15), .int (V 0 16), .int (V 0 17), .int (V 0 18), .int (V 0 19), .int (V 0 20), .int (V 0 21), .ref (A 22), .int (V 0 23), .ref (A 24), .ref (A 25), .ref (A 26), .ref (A 27), .ref (A 28), .ref (A 29), .ref (A 30), .ref (A 31), .ref (A 32), .ref (A 33), .ref (A 34), .ref (A 35), .long (L 36), .int (V 0 37), .int (V 0 38), .int (V 0 39), .int (V 0 40), .int (V 0 41), .int (V 0 42), .int (V 0 43), .int (V 0 44), .ref (A 45), .ref (A 46), .ref (A 47), .ref (A 48), .long (L 49)]
/-- the reference's cells: 0 the object, k the array of its field k -/
def mw (E : EvT) (A : Nat → Nat) (V : Nat → Nat → Int32) (L : Nat → Int64) : va_W := [(A 0, .inr (5, mfs A V L)),
  (A 3, .inl (E.2.1, 3, .inl (V 3))),
  (A 4, .inl (E.2.1, 9, .inl (V 4))),
  (A 11, .inl (E.2.1, 6, .inl (V 11))),
  (A 12, .inl (E.2.1, 6, .inl (V 12))),
  (A 14, .inl (E.2.2.1, 20, .inl (V 14))),
  (A 22, .inl (E.2.1, 2187, .inl (V 22))),
  (A 24, .inl (E.2.1, 8, .inl (V 24))),
  (A 25, .inl (E.2.1, 8, .inl (V 25))),
  (A 26, .inl (E.2.1, 8, .inl (V 26))),
  (A 27, .inl (E.2.1, 8, .inl (V 27))),
  (A 28, .inl (E.2.1, 8, .inl (V 28))),
  (A 29, .inl (E.2.1, 8, .inl (V 29))),
  (A 30, .inl (E.2.1, 24, .inl (V 30))),
  (A 31, .inl (E.2.1, 24, .inl (V 31))),
  (A 32, .inl (E.2.1, 24, .inl (V 32))),
  (A 33, .inl (E.2.1, 24, .inl (V 33))),
  (A 34, .inl (E.2.1, 8, .inl (V 34))),
  (A 35, .inl (E.2.1, 8, .inl (V 35))),
  (A 45, .inl (E.2.1, 8, .inl (V 45))),
  (A 46, .inl (E.2.1, 3, .inl (V 46))),
  (A 47, .inl (E.2.1, 6, .inl (V 47))),
  (A 48, .inl (E.2.1, 6, .inl (V 48)))]

theorem cw_fst (E : EvT) (A : Nat → Nat) (V V2 : Nat → Nat → Int32) (L L2 : Nat → Int64) : (cw E A V L).map Prod.fst = (cw E A V2 L2).map Prod.fst := rfl
theorem mw_fst (E : EvT) (A : Nat → Nat) (V V2 : Nat → Nat → Int32) (L L2 : Nat → Int64) : (mw E A V L).map Prod.fst = (mw E A V2 L2).map Prod.fst := rfl
def isCirc (j : Nat) : Prop := j = 6 ∨ j = 11 ∨ j = 16
theorem cw_c {j : Nat} (hj : isCirc j) (E : EvT) (A : Nat → Nat) (V : Nat → Nat → Int32) (L : Nat → Int64) : (cw E A V L)[j]? = some (A j, .inr (0, cfs (V j))) := by
  rcases hj with rfl | rfl | rfl <;> rfl
theorem cw_cs {j : Nat} (hj : isCirc j) (E : EvT) (A : Nat → Nat) (V : Nat → Nat → Int32) (L : Nat → Int64) (c : Nat → Int32) : (cw E A V L).set j (A j, .inr (0, cfs c)) = cw E A (setc V j c) L := by
  rcases hj with rfl | rfl | rfl <;> rfl
abbrev FT : Type := (Nat → Nat → Int32) → (Nat → Int64) → va_W
def IF (X : XT) (E : EvT) (Z : Nat → Prop) (F : FT) : ((Nat → Nat → Int32) × (Nat → Int64)) → Heap → List Loc → Prop := fun σ => IW X E Z (F σ.1 σ.2)
def IC (X : XT) (E : EvT) (Z : Nat → Prop) (A : Nat → Nat) (V : Nat → Nat → Int32) (L : Nat → Int64) (j : Nat) : (Nat → Int32) → Heap → List Loc → Prop := fun c => IW X E Z (cw E A (setc V j c) L)
section HP
variable {X : XT} {hd : Cond} {cc : ByteArray} {nL : Nat} {own : String} {fr lo : Nat} {Q : State → Prop} {pc : Nat} {lv : List (Nat × Value)} {st : List Value} {E : EvT} {Z : Nat → Prop} {w : va_W} {H : Heap} {locs : List Loc} {ls : Array Slot}
variable {q ci k N index a n : Nat} {fs : List Value} {v : Value} {Cc ref : String} {T : u_T}
theorem x_get (C : Cx X hd cc nL own fr lo) (K : Ck X E Z) (hin : ∀ z ∈ u_ws Cc T N, z ∈ wA) (hcl : vwCl[ci]? = some (Cc, T, N)) (hk : k < N) (hlk : Cond.fieldLink own index (T k).1 (T k).2.1 (T k).2.2.1 ∈ wA) (he : w[q]? = some (a, .inr (ci, fs))) (hv : fs[k]? = some v) (hdg : decode cc pc = .ok (.getfield index, 3)) (hI : IW X E Z w H locs) (kk : Wx X H locs Q (pc + 3) ls (v :: st)) : Wx X H locs Q pc ls (.ref a :: st) :=
  va_get (ci := ci) (v := v) (C := Cc) (T := T) (N := N) C.1 C.2.1 C.2.2.2.2.1 (fun z h => List.mem_cons_of_mem _ (hin z h)) C.2.2.2.1 K.1 hI.1 q he hcl k hk (C.2.2.2.2.1 _ (List.mem_cons_of_mem _ hlk)) (fun _ h => h) hv hdg kk
theorem x_getN (C : Cx X hd cc nL own fr lo) (K : Ck X E Z) (hin : ∀ z ∈ u_ws Cc T N, z ∈ wA) (hcl : vwCl[ci]? = some (Cc, T, N)) (hk : k < N) (hlk : (own, index, (T k).1, (T k).2.1, (T k).2.2.1) ∈ nstF) (he : w[q]? = some (a, .inr (ci, fs))) (hv : fs[k]? = some v) (hdg : decode cc pc = .ok (.getfield index, 3)) (hI : IW X E Z w H locs) (kk : Wx X H locs Q (pc + 3) ls (v :: st)) : Wx X H locs Q pc ls (.ref a :: st) :=
  va_getN (host := "CountOut") (ci := ci) (v := v) (C := Cc) (T := T) (N := N) C.1 C.2.1 C.2.2.2.2.1 (fun z h => List.mem_cons_of_mem _ (hin z h)) C.2.2.2.1 K.1 hI.1 q he hcl k hk (va_Nw.use rfl (K.2.1 _ hlk)) (fun _ h => h) hv hdg kk
theorem x_put (C : Cx X hd cc nL own fr lo) (K : Ck X E Z) (hin : ∀ z ∈ u_ws Cc T N, z ∈ wA) (ty0 : Nat → FieldType) (hty : ∀ k, k < N → parseFieldDescriptor (T k).2.2.1 = some (ty0 k)) (hnm : ∀ a, a < N → ∀ b, b < N → a ≠ b → (T a).2.1 ≠ (T b).2.1) (hcl : vwCl[ci]? = some (Cc, T, N)) (hk : k < N) (hlk : Cond.fieldLink own index (T k).1 (T k).2.1 (T k).2.2.1 ∈ wA) (hfin : (T k).2.2.2 = false) (he : w[q]? = some (a, .inr (ci, fs))) (hl2 : k < fs.length) {w2 : va_W} (hw : w.set q (a, .inr (ci, fs.set k v)) = w2) (hn : narrow (ty0 k) v = v) (hfit : fits (ty0 k) v = true) (hdg : decode cc pc = .ok (.putfield index, 3)) (hI : IW X E Z w H locs) (kk : ∀ (H1 : Heap) (locs1 : List Loc), IW X E Z w2 H1 locs1 → Wx X H1 locs1 Q (pc + 3) ls st) : Wx X H locs Q pc ls (v :: .ref a :: st) := by
  subst hw
  exact va_put (ci := ci) (v := v) (ty := ty0 k) (C := Cc) (T := T) (N := N) C.1 C.2.1 C.2.2.2.2.1 (fun z h => List.mem_cons_of_mem _ (hin z h)) ty0 hty hnm C.2.2.2.1 K.1 hI.1 hI.2.1 hI.2.2 q he hcl k hk (C.2.2.2.2.1 _ (List.mem_cons_of_mem _ hlk)) (fun _ h => h) hfin (hty k hk) hn hfit hl2 hdg (fun H1 locs1 h1 h2 h3 => kk H1 locs1 ⟨h1, h2, h3⟩)
theorem x_putN (C : Cx X hd cc nL own fr lo) (K : Ck X E Z) (hin : ∀ z ∈ u_ws Cc T N, z ∈ wA) (ty0 : Nat → FieldType) (hty : ∀ k, k < N → parseFieldDescriptor (T k).2.2.1 = some (ty0 k)) (hnm : ∀ a, a < N → ∀ b, b < N → a ≠ b → (T a).2.1 ≠ (T b).2.1) (hcl : vwCl[ci]? = some (Cc, T, N)) (hk : k < N) (hlk : (own, index, (T k).1, (T k).2.1, (T k).2.2.1) ∈ nstF) (hfin : (T k).2.2.2 = false) (he : w[q]? = some (a, .inr (ci, fs))) (hl2 : k < fs.length) {w2 : va_W} (hw : w.set q (a, .inr (ci, fs.set k v)) = w2) (hn : narrow (ty0 k) v = v) (hfit : fits (ty0 k) v = true) (hdg : decode cc pc = .ok (.putfield index, 3)) (hI : IW X E Z w H locs) (kk : ∀ (H1 : Heap) (locs1 : List Loc), IW X E Z w2 H1 locs1 → Wx X H1 locs1 Q (pc + 3) ls st) : Wx X H locs Q pc ls (v :: .ref a :: st) := by
  subst hw
  exact va_putN (host := "CountOut") (ci := ci) (v := v) (ty := ty0 k) (C := Cc) (T := T) (N := N) C.1 C.2.1 C.2.2.2.2.1 (fun z h => List.mem_cons_of_mem _ (hin z h)) ty0 hty hnm C.2.2.2.1 K.1 hI.1 hI.2.1 hI.2.2 q he hcl k hk (va_Nw.use rfl (K.2.1 _ hlk)) (fun _ h => h) hfin (hty k hk) hn hfit hl2 hdg (fun H1 locs1 h1 h2 h3 => kk H1 locs1 ⟨h1, h2, h3⟩)
variable {F : FT} {V : Nat → Nat → Int32} {L : Nat → Int64} {j : Nat} {i x : Int32} {α : Type} {o : α}
theorem s_iald (C : Cx X hd cc nL own fr lo) (K : Ck X E Z) (he : (F V L)[q]? = some (a, .inl (E.2.1, n, .inl (V j)))) (hdg : decode cc pc = .ok (.iaload, 1)) {k : Option α} (hf : (if ib i n = true then k else none) = some o) (kk : k = some o → Wm X nL (IF X E Z F) Q (pc + 1) lv (.int (V j i.toNatClampNeg) :: st) (V, L)) : Wm X nL (IF X E Z F) Q pc lv (.int i :: .ref a :: st) (V, L) :=
  gd_if hf fun h hf H locs ls hI hl => va_iald C.1 C.2.1 K.1 hI.1 q 0 he rfl (ib_in h) hdg (kk hf H locs ls hI hl)
theorem s_bald (C : Cx X hd cc nL own fr lo) (K : Ck X E Z) (he : (F V L)[q]? = some (a, .inl (E.2.2.1, n, .inl (V j)))) (hdg : decode cc pc = .ok (.baload, 1)) {k : Option α} (hf : (if ib i n = true then k else none) = some o) (kk : k = some o → Wm X nL (IF X E Z F) Q (pc + 1) lv (.int (V j i.toNatClampNeg) :: st) (V, L)) : Wm X nL (IF X E Z F) Q pc lv (.int i :: .ref a :: st) (V, L) :=
  gd_if hf fun h hf H locs ls hI hl => va_bald C.1 C.2.1 K.1 hI.1 q 1 he rfl (ib_in h) hdg (kk hf H locs ls hI hl)
theorem s_iast (C : Cx X hd cc nL own fr lo) (K : Ck X E Z) (he : (F V L)[q]? = some (a, .inl (E.2.1, n, .inl (V j)))) (hw : ∀ z : Nat, (F V L).set q (a, .inl (E.2.1, n, .inl (upd (V j) z x))) = F (up2 V j z x) L) (hdg : decode cc pc = .ok (.iastore, 1)) {k : (Nat → Nat → Int32) → Option α} (hf : (if ib i n = true then bnd (up2 V j i.toNatClampNeg x) k else none) = some o) (kk : ∀ V2, k V2 = some o → Wm X nL (IF X E Z F) Q (pc + 1) lv st (V2, L)) : Wm X nL (IF X E Z F) Q pc lv (.int x :: .int i :: .ref a :: st) (V, L) :=
  gd_if hf fun h hf H locs ls hI hl => va_iast C.1 C.2.1 K.1 hI.1 hI.2.1 hI.2.2 q 0 he rfl (ib_in h) hdg (fun H1 locs1 h1 h2 h3 => kk _ hf H1 locs1 ls ⟨by rw [hw] at h1; exact h1, by rw [hw] at h2; exact h2, h3⟩ hl)
theorem s_bast (C : Cx X hd cc nL own fr lo) (K : Ck X E Z) (he : (F V L)[q]? = some (a, .inl (E.2.2.1, n, .inl (V j)))) (hw : ∀ (z : Nat) (x : Int32), (F V L).set q (a, .inl (E.2.2.1, n, .inl (upd (V j) z x))) = F (up2 V j z x) L) (hdg : decode cc pc = .ok (.bastore, 1)) {k : (Nat → Nat → Int32) → Option α} (hf : (if ib i n = true then bnd (up2 V j i.toNatClampNeg (vp_nar .byte x)) k else none) = some o) (kk : ∀ V2, k V2 = some o → Wm X nL (IF X E Z F) Q (pc + 1) lv st (V2, L)) : Wm X nL (IF X E Z F) Q pc lv (.int x :: .int i :: .ref a :: st) (V, L) :=
  gd_if hf fun h hf H locs ls hI hl => va_bast C.1 C.2.1 K.1 hI.1 hI.2.1 hI.2.2 q 1 he rfl (ib_in h) hdg (fun H1 locs1 h1 h2 h3 => kk _ hf H1 locs1 ls ⟨by rw [hw] at h1; exact h1, by rw [hw] at h2; exact h2, h3⟩ hl)
theorem s_alen (C : Cx X hd cc nL own fr lo) (K : Ck X E Z) (he : (F V L)[q]? = some (a, .inl (E.2.1, n, .inl (V j)))) {r : Int32} (hr : Int32.ofNat n = r) (hdg : decode cc pc = .ok (.arraylength, 1)) (kk : Wm X nL (IF X E Z F) Q (pc + 1) lv (.int r :: st) (V, L)) : Wm X nL (IF X E Z F) Q pc lv (.ref a :: st) (V, L) :=
  fun H locs ls hI hl => va_alen C.1 C.2.1 K.1 hI.1 q 0 he (ty := .int) rfl hr hdg (kk H locs ls hI hl)
theorem s_copy (C : Cx X hd cc nL own fr lo) (K : Ck X E Z) (hl1 : Cond.methodLink own index arraycopyName ∈ wA) (hl2 : Cond.native arraycopyName ∈ wA) (hl3 : Cond.static arraycopyName ∈ wA) (hl4 : Cond.initialized "java/lang/System" ∈ wA) (hfr : 1 ≤ fr) (hlo : (st.map fun v => v.category).sum + (nativeFrameWords "java/lang/System" "arraycopy" 5 + 11) ≤ lo) {q1 j1 a1 n1 : Nat} (he : (F V L)[q]? = some (a, .inl (E.2.1, n, .inl (V j)))) (he1 : (F V L)[q1]? = some (a1, .inl (E.2.1, n1, .inl (V j1)))) (hw : ∀ g : Nat → Int32, (F V L).set q1 (a1, .inl (E.2.1, n1, .inl g)) = F (setc V j1 g) L) {sp dp m : Int32} (h1 : ¬ sp < 0) (h2 : ¬ dp < 0) (h3 : ¬ m < 0) (h4 : sp.toNatClampNeg + m.toNatClampNeg ≤ n) (h5 : dp.toNatClampNeg + m.toNatClampNeg ≤ n1) (hdg : decode cc pc = .ok (.invokestatic index, 3)) {k : (Nat → Nat → Int32) → α} (hf : bnd (setc V j1 (va_cpy (V j) (V j1) sp.toNatClampNeg dp.toNatClampNeg m.toNatClampNeg)) k = o) (kk : ∀ V2, k V2 = o → Wm X nL (IF X E Z F) Q (pc + 3) lv st (V2, L)) : Wm X nL (IF X E Z F) Q pc lv (.int m :: .int dp :: .ref a1 :: .int sp :: .ref a :: st) (V, L) := by
  have ok : ∀ w ∈ wA, w.before X.2.2.2.2.2.2.1 X.2.2.2.2.1 = true := fun w h => C.2.2.2.2.1 w (List.mem_cons_of_mem _ h)
  exact fun H locs ls hI hl => va_copyi C.1 C.2.1 (by rw [C.2.2.1]; exact hl.1.symm) C.2.2.2.1 (ok _ hl1) (ok _ hl2) (ok _ hl3) (ok _ hl4) K.1 hI.1 hI.2.1 hI.2.2 q q1 0 0 he he1 rfl rfl rfl h1 h2 h3 h4 h5 (fun i _ => rfl) (by rw [C.2.2.2.2.2.1]; exact hfr) (by rw [C.2.2.2.2.2.2]; exact hlo) hdg (fun H1 locs1 g1 g2 g3 => kk _ hf H1 locs1 ls ⟨by rw [hw] at g1; exact g1, by rw [hw] at g2; exact g2, g3⟩ hl)
end HP

