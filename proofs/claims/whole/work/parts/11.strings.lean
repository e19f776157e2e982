section STR
variable {X : XT} {hd : Cond} {cc : ByteArray} {nL : Nat} {fr lo : Nat} {Q : State → Prop} {pc : Nat} {lv : List (Nat × Value)} {st rest : List Value} {E : EvT} {Z : Nat → Prop} {A : Nat → Nat} {V : Nat → Nat → Int32} {L : Nat → Int64}
theorem r_ldcS (C : Cx X hd cc nL RX2 fr lo) (K : Ck X E Z) (hdg : decode cc pc = .ok (.ldc 57, 2)) (kk : Wm X nL (IF X E Z (cw E A)) Q (pc + 2) lv (.ref (E.2.2.2.1 0) :: st) (V, L)) : Wm X nL (IF X E Z (cw E A)) Q pc lv st (V, L) :=
  fun H locs ls hI hl => va_ldcS C.1 C.2.1 C.2.2.2.1 K.2.2.1.1 hdg (kk H locs ls hI hl)
theorem s_indexOf (C : Cx X hd cc nL RX2 fr lo) (K : Ck X E Z) (hfr : 20 ≤ fr) (hlo : 600 ≤ lo) {x : Int32} (hrest : (rest.map fun v => v.category).sum ≤ 8) (hdg : decode cc pc = .ok (.invokevirtual 59, 3)) (kk : Wm X nL (IF X E Z (cw E A)) Q (pc + 3) lv (.int (f_indexOf x) :: rest) (V, L)) : Wm X nL (IF X E Z (cw E A)) Q pc lv (.int x :: .ref (E.2.2.2.1 0) :: rest) (V, L) := sorry
end STR
