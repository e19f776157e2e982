theorem bit0 {X i : Nat} {P : Prop} [Decidable P] (hi : i < 31) (h : X.testBit i = decide P) (hp : ¬ P) : nI X &&& ishl 1 (nI i) = 0 := by
  rw [and_pow_0 hi, h, decide_eq_false hp]
theorem bit1 {X i : Nat} {P : Prop} [Decidable P] (hi : i < 31) (h : X.testBit i = decide P) (hp : P) : ¬ nI X &&& ishl 1 (nI i) = 0 := by
  rw [and_pow_0 hi, h, decide_eq_true hp]
  decide
theorem kindOf_eq {c : Nat → Int32} {n T B Y G : Nat} {st : Nat × Nat × Nat × Bool} {K : Nat → Nat} (h : CiS c n T B Y G st) (hB : KB n K T B Y G) (hn : n ≤ 9) {i : Nat} (hi : i < n) : f_X0_kindOf c (nI i) = nI (K i) := by
  obtain ⟨h0, h1, h2, h3, h4, -⟩ := h
  obtain ⟨k4, kT, kB, kY, kG⟩ := hB.2.2.2.2 i hi
  have hi31 : i < 31 := by omega
  unfold f_X0_kindOf
  rw [h1, h2, h3, h4]
  have e : K i = 0 ∨ K i = 1 ∨ K i = 2 ∨ K i = 3 ∨ K i = 4 := by omega
  rcases e with e | e | e | e | e
  · rw [if_pos (bit0 hi31 kT (by omega)), if_pos (bit0 hi31 kB (by omega)), if_pos (bit0 hi31 kG (by omega)), if_pos (bit0 hi31 kY (by omega)), e]; rfl
  · rw [if_neg (bit1 hi31 kT (by omega)), e]; rfl
  · rw [if_pos (bit0 hi31 kT (by omega)), if_neg (bit1 hi31 kB (by omega)), e]; rfl
  · rw [if_pos (bit0 hi31 kT (by omega)), if_pos (bit0 hi31 kB (by omega)), if_pos (bit0 hi31 kG (by omega)), if_neg (bit1 hi31 kY (by omega)), e]; rfl
  · rw [if_pos (bit0 hi31 kT (by omega)), if_pos (bit0 hi31 kB (by omega)), if_neg (bit1 hi31 kG (by omega)), e]; rfl
theorem cisIn_eq {c : Nat → Int32} {I n i : Nat} (h5 : c 5 = nI I) (hI : I < 2 ^ n) (hn : n ≤ 9) (hi : i < 31) : f_X0_isIn c (nI i) = bz (I.testBit i) := by
  have hI9 := lt_pow hn hI
  unfold f_X0_isIn
  rw [h5]
  cases hb : I.testBit i with
  | false => rw [if_pos (by rw [ishr_0 (by omega) hi]; exact hb)]; rfl
  | true => rw [if_neg (by rw [ishr_0 (by omega) hi, hb]; decide)]; rfl
theorem cslip_eq {c : Nat → Int32} {I n i : Nat} (h5 : c 6 = nI I) (hI : I < 2 ^ n) (hn : n ≤ 9) (hi : i < 31) : f_X0_hasSlipped c (nI i) = bz (I.testBit i) := by
  have hI9 := lt_pow hn hI
  unfold f_X0_hasSlipped
  rw [h5]
  cases hb : I.testBit i with
  | false => rw [if_pos (by rw [ishr_0 (by omega) hi]; exact hb)]; rfl
  | true => rw [if_neg (by rw [ishr_0 (by omega) hi, hb]; decide)]; rfl
theorem RSh.IS {n : Nat} {st : Nat × Nat × Nat × Bool} {nv ct sn : Nat} (h : RSh n st nv ct sn) : st.1 < 2 ^ n ∧ st.2.1 < 2 ^ n := by
  rcases h with ⟨h, h2, -⟩ | ⟨-, -, h, -⟩
  · rw [h, h2]; decide
  · exact ⟨h.1, h.2.1⟩
theorem setD_self {V : Nat → Nat → Int32} {st : Nat × Nat × Nat × Bool} (h : V 0 5 = nI st.1 ∧ V 0 6 = nI st.2.1 ∧ V 0 7 = nI st.2.2.1 ∧ V 0 8 = bz st.2.2.2) : setD V st = V := by
  funext a b
  unfold setD
  by_cases ha : a = 0
  · subst ha
    rw [if_pos rfl]
    by_cases h5 : b = 5
    · subst h5; exact h.1.symm
    by_cases h6 : b = 6
    · subst h6; exact h.2.1.symm
    by_cases h7 : b = 7
    · subst h7; exact h.2.2.1.symm
    by_cases h8 : b = 8
    · subst h8; exact h.2.2.2.symm
    rw [if_neg h5, if_neg h6, if_neg h7, if_neg h8]
  · rw [if_neg ha]
theorem sim_beats : Sim_beats Rel := by
  rintro N V L V2 L2 x1 x2 hN ⟨s, q, ρ, n, K, T, B, Y, G, st, nv, bt, ct, sn, sf, so, h⟩
  obtain ⟨h1, h2, h3, h4, h5, h6, h7, h8, h9⟩ := h.mono
  have h4' := h4
  obtain ⟨e1, e2, e3, e4⟩ := h4'
  unfold f_X4_beats f_X5_beats
  rw [hasVerse_eq e1 e3, isVerse_eq e2 (by omega)]
  by_cases hx : ib x1 nv = true
  · rw [hx, if_neg (show ¬ bz true = 0 by decide), if_neg (show ¬ bz true = 0 by decide), isBeats_eq]
    obtain ⟨i, hi, rfl⟩ := ib_of hx (by omega)
    by_cases hb : f_X5_within x2 1 99 = 0
    · exact ⟨_, V, L, V2, L2, if_pos hb, if_pos hb, h.up L2⟩
    · obtain ⟨b, hb1, hb2, rfl⟩ := beats_of hb
      rw [if_neg hb, if_neg hb, if_pos (ib_nI (by omega) (by decide)), if_pos (ib_nI (by omega) (by decide)), if_pos (ib_nI (by omega) (by decide)), if_pos (ib_nI (by omega) (by decide)), nI_clamp (by omega)]
      refine ⟨nI (bt i), up2 V 7 i (nI b), L, up2 V2 3 i (nI b), L2, ?_, ?_, s, q, ρ, n, K, T, B, Y, G, st, nv, fun j => if j = i then b else bt j, ct, sn, sf, so, h1, h2, h3, ⟨e1, e2, e3, fun v hv => ?_⟩, h5, h6, h7, h8, h9⟩
      · rw [(e4 i hi).1]; rfl
      · rw [(e4 i hi).2.1]; rfl
      · show upd (V 7) i (nI b) v = nI (if v = i then b else bt v) ∧ upd (V2 3) i (nI b) v = nI (if v = i then b else bt v) ∧ 1 ≤ (if v = i then b else bt v) ∧ (if v = i then b else bt v) ≤ 99
        by_cases e : v = i
        · rw [e, pk_us, pk_us, if_pos rfl]
          exact ⟨rfl, rfl, hb1, hb2⟩
        · rw [pk_un e, pk_un e, if_neg e]
          exact e4 v hv
  · have hx0 : ib x1 nv = false := by simpa using hx
    rw [hx0]
    exact ⟨_, V, L, V2, L2, if_pos rfl, if_pos rfl, h.up L2⟩
theorem sim_as : Sim_as Rel := by
  rintro N V L V2 L2 x1 x2 hN ⟨s, q, ρ, n, K, T, B, Y, G, st, nv, bt, ct, sn, sf, so, h⟩
  obtain ⟨h1, h2, h3, h4, h5, h6, h7, h8, h9⟩ := h.mono
  have hn := h7.le
  refine ⟨f_X4_as V L x1 x2, V, L, V2, L2, ⟨rfl, rfl, rfl⟩, ⟨?_, rfl, rfl⟩, h.up L2⟩
  unfold f_X4_as f_X5_as
  rw [hasChild_eq h3.1.1 (by omega), isChild_eq h3.2.2.1.1 (by omega), isKind_eq, within5]
  by_cases hx : ib x1 n = true
  · rw [hx, if_neg (show ¬ bz true = 0 by decide), if_neg (show ¬ bz true = 0 by decide)]
    obtain ⟨i, hi, rfl⟩ := ib_of hx (by omega)
    rw [if_pos (ib_nI (show i < 9 by omega) (by decide)), nI_clamp (by omega), h3.2.2.1.2 i hi, kindOf_eq h3.1 h3.2.2.2 (by omega) hi]
    have k4 := (h3.2.2.2.2.2.2.2 i hi).1
    by_cases hk : ib x2 5 = true
    · rw [hk, if_neg (show ¬ bz true = 0 by decide), if_neg (show ¬ bz true = 0 by decide)]
      obtain ⟨k, hk5, rfl⟩ := ib_of hk (by omega)
      have key : ∀ k, k < 5 → ∀ j, j < 5 → ((if nI k = 0 then some (nI i) else if nI j = nI k then some (nI i) else if nI k = (3 : Int32) then (if nI j = (4 : Int32) then some (nI i) else some (-1 : Int32)) else some (-1 : Int32)) = some (if nI k = 0 then f_X4_as_62 V L (nI i) (1 : Int32) else if nI k = nI j then f_X4_as_62 V L (nI i) (1 : Int32) else if nI k = (3 : Int32) then (if nI j = (4 : Int32) then f_X4_as_62 V L (nI i) (1 : Int32) else f_X4_as_62 V L (nI i) (0 : Int32)) else f_X4_as_62 V L (nI i) (0 : Int32))) := by
        have e1 : f_X4_as_62 V L (nI i) (1 : Int32) = nI i := rfl
        have e0 : f_X4_as_62 V L (nI i) (0 : Int32) = -1 := rfl
        rw [e1, e0]
        intro k hk j hj
        by_cases a : nI k = 0
        · rw [if_pos a, if_pos a]
        · rw [if_neg a, if_neg a]
          by_cases b : nI k = nI j
          · rw [if_pos b.symm, if_pos b]
          · rw [if_neg (fun e => b e.symm), if_neg b]
            by_cases c : nI k = 3
            · rw [if_pos c, if_pos c]
              by_cases d : nI j = 4
              · rw [if_pos d, if_pos d]
              · rw [if_neg d, if_neg d]
            · rw [if_neg c, if_neg c]
      exact key k hk5 (K i) (by omega)
    · have hk0 : ib x2 5 = false := by simpa using hk
      rw [hk0]
      rfl
  · have hx0 : ib x1 n = false := by simpa using hx
    rw [hx0]
    rfl
/-- a bit set, or taken out -/
def bset (b : Bool) (X i : Nat) : Nat := if b then X ||| 2 ^ i else dif X (2 ^ i)
theorem bset_bit (b : Bool) (X i j : Nat) : (bset b X i).testBit j = if j = i then b else X.testBit j := by
  unfold bset
  cases b with
  | true =>
    rw [if_pos rfl, Nat.testBit_or, pow_bit]
    by_cases e : j = i <;> simp [e]
  | false =>
    rw [if_neg (by decide), dif_bit, pow_bit]
    by_cases e : j = i <;> simp [e]
theorem bset_lt {b : Bool} {X i n : Nat} (hX : X < 2 ^ n) (hi : i < n) : bset b X i < 2 ^ n := by
  unfold bset
  split
  · exact or_lt hX (pow_lt hi)
  · exact dif_lt hX
theorem KB.set {n : Nat} {K : Nat → Nat} {T B Y G : Nat} (h : KB n K T B Y G) {i k : Nat} (hi : i < n) (hk : k ≤ 4) : KB n (fun j => if j = i then k else K j) (bset (decide (k = 1)) T i) (bset (decide (k = 2)) B i) (bset (decide (3 ≤ k)) Y i) (bset (decide (k = 4)) G i) := by
  obtain ⟨h1, h2, h3, h4, h5⟩ := h
  refine ⟨bset_lt h1 hi, bset_lt h2 hi, bset_lt h3 hi, bset_lt h4 hi, fun j hj => ?_⟩
  rw [bset_bit, bset_bit, bset_bit, bset_bit]
  by_cases e : j = i
  · simp only [e, if_true]
    exact ⟨hk, trivial, trivial, trivial, trivial⟩
  · simp only [e, if_false]
    exact h5 j hj
theorem become_eq {c : Nat → Int32} {n T B Y G I S f : Nat} {o : Bool} (h : Ci c n T B Y G I S f o) {i k : Nat} (hi : i < 31) (hk : k ≤ 4) : Ci (f_X0_become c (nI i) (nI k)) n (bset (decide (k = 1)) T i) (bset (decide (k = 2)) B i) (bset (decide (3 ≤ k)) Y i) (bset (decide (k = 4)) G i) I (dif S (2 ^ i)) f o := by
  obtain ⟨h0, h1, h2, h3, h4, h5, h6, h7, h8⟩ := h
  have a1 : c 1 ||| ishl 1 (nI i) = nI (T ||| 2 ^ i) := by rw [h1, ishl_one i hi, fa_or]
  have a2 : c 2 ||| ishl 1 (nI i) = nI (B ||| 2 ^ i) := by rw [h2, ishl_one i hi, fa_or]
  have a3 : c 3 ||| ishl 1 (nI i) = nI (Y ||| 2 ^ i) := by rw [h3, ishl_one i hi, fa_or]
  have a4 : c 4 ||| ishl 1 (nI i) = nI (G ||| 2 ^ i) := by rw [h4, ishl_one i hi, fa_or]
  have d1 : c 1 &&& (ishl 1 (nI i) ^^^ (-1)) = nI (dif T (2 ^ i)) := by rw [h1, ishl_one i hi, nI_dif]
  have d2 : c 2 &&& (ishl 1 (nI i) ^^^ (-1)) = nI (dif B (2 ^ i)) := by rw [h2, ishl_one i hi, nI_dif]
  have d3 : c 3 &&& (ishl 1 (nI i) ^^^ (-1)) = nI (dif Y (2 ^ i)) := by rw [h3, ishl_one i hi, nI_dif]
  have d4 : c 4 &&& (ishl 1 (nI i) ^^^ (-1)) = nI (dif G (2 ^ i)) := by rw [h4, ishl_one i hi, nI_dif]
  have d6 : c 6 &&& (ishl 1 (nI i) ^^^ (-1)) = nI (dif S (2 ^ i)) := by rw [h6, ishl_one i hi, nI_dif]
  simp only [f_X0_become, f_X0_become_30, f_X0_become_56, f_X0_become_87, f_X0_become_113, bnd]
  have e : k = 0 ∨ k = 1 ∨ k = 2 ∨ k = 3 ∨ k = 4 := by omega
  rcases e with e | e | e | e | e <;> subst e
  · rw [if_neg (show ¬ nI 0 = 1 by decide), if_neg (show ¬ nI 0 = 2 by decide), if_neg (show ¬ nI 0 = 3 by decide), if_neg (show ¬ nI 0 = 4 by decide), if_neg (show ¬ nI 0 = 4 by decide)]
    exact ⟨h0, d1, d2, d3, d4, h5, d6, h7, h8⟩
  · rw [if_pos (show nI 1 = 1 by decide), if_neg (show ¬ nI 1 = 2 by decide), if_neg (show ¬ nI 1 = 3 by decide), if_neg (show ¬ nI 1 = 4 by decide), if_neg (show ¬ nI 1 = 4 by decide)]
    exact ⟨h0, a1, d2, d3, d4, h5, d6, h7, h8⟩
  · rw [if_neg (show ¬ nI 2 = 1 by decide), if_pos (show nI 2 = 2 by decide), if_neg (show ¬ nI 2 = 3 by decide), if_neg (show ¬ nI 2 = 4 by decide), if_neg (show ¬ nI 2 = 4 by decide)]
    exact ⟨h0, d1, a2, d3, d4, h5, d6, h7, h8⟩
  · rw [if_neg (show ¬ nI 3 = 1 by decide), if_neg (show ¬ nI 3 = 2 by decide), if_pos (show nI 3 = 3 by decide), if_neg (show ¬ nI 3 = 4 by decide)]
    exact ⟨h0, d1, d2, a3, d4, h5, d6, h7, h8⟩
  · rw [if_neg (show ¬ nI 4 = 1 by decide), if_neg (show ¬ nI 4 = 2 by decide), if_neg (show ¬ nI 4 = 3 by decide), if_pos (show nI 4 = 4 by decide), if_pos (show nI 4 = 4 by decide)]
    exact ⟨h0, d1, d2, a3, a4, h5, d6, h7, h8⟩
theorem sim_be : Sim_be Rel := by
  rintro N V L V2 L2 x1 x2 hN ⟨s, q, ρ, n, K, T, B, Y, G, st, nv, bt, ct, sn, sf, so, h⟩
  obtain ⟨h1, h2, h3, h4, h5, h6, h7, h8, h9⟩ := h.mono
  have hn := h7.le
  unfold f_X4_be f_X5_be
  rw [hasChild_eq h3.1.1 (by omega), isChild_eq h3.2.2.1.1 (by omega), isKind_eq, within5]
  by_cases hx : ib x1 n = true
  · rw [hx, if_neg (show ¬ bz true = 0 by decide), if_neg (show ¬ bz true = 0 by decide)]
    obtain ⟨i, hi, rfl⟩ := ib_of hx (by omega)
    rw [if_pos (ib_nI (show i < 9 by omega) (by decide)), if_pos (ib_nI (show i < 9 by omega) (by decide)), nI_clamp (by omega), h3.2.2.1.2 i hi, kindOf_eq h3.1 h3.2.2.2 (by omega) hi]
    by_cases hk : ib x2 5 = true
    · rw [hk, if_neg (show ¬ bz true = 0 by decide), if_neg (show ¬ bz true = 0 by decide)]
      obtain ⟨k, hk5, rfl⟩ := ib_of hk (by omega)
      obtain ⟨I, S, f, o⟩ := st
      obtain ⟨a1, a2, a3⟩ := h7.ok (by omega)
      obtain ⟨c0, ⟨b5, b6, b7, b8⟩, b9, b10⟩ := h3
      have hc := become_eq (show Ci (V 6) n T B Y G I S f o from c0) (i := i) (k := k) (by omega) (by omega)
      refine ⟨nI (K i), setc V 6 (f_X0_become (V 6) (nI i) (nI k)), L, up2 (up2 V2 4 i (nI k)) 0 6 (nI (dif S (2 ^ i))), L2, rfl, ?_, s, q, ρ, n, fun j => if j = i then k else K j, bset (decide (k = 1)) T i, bset (decide (k = 2)) B i, bset (decide (3 ≤ k)) Y i, bset (decide (k = 4)) G i, (I, dif S (2 ^ i), f, o), nv, bt, ct, sn, sf, so, h1, h2, ⟨hc, ⟨b5, rfl, b7, b8⟩, ⟨b9.1, fun j hj => ?_⟩, b10.set hi (by omega)⟩, h4, h5, h6, Or.inr ⟨a1, hn, ⟨a2.1, dif_lt a2.2.1, a2.2.2⟩, a3⟩, h8, h9⟩
      · simp only [bnd]
        rw [show up2 V2 4 i (nI k) 0 6 = nI S from b6, ishl_one i (by omega), nI_dif]
      · show upd (V2 4) i (nI k) j = nI (if j = i then k else K j)
        by_cases e : j = i
        · rw [e, pk_us, if_pos rfl]
        · rw [pk_un e, if_neg e]
          exact b9.2 j hj
    · have hk0 : ib x2 5 = false := by simpa using hk
      rw [hk0]
      exact ⟨_, V, L, V2, L2, if_pos rfl, if_pos rfl, h.up L2⟩
  · have hx0 : ib x1 n = false := by simpa using hx
    rw [hx0]
    exact ⟨_, V, L, V2, L2, if_pos rfl, if_pos rfl, h.up L2⟩
theorem sim_back : Sim_back Rel := by
  rintro N V L V2 L2 x1 hN ⟨s, q, ρ, n, K, T, B, Y, G, st, nv, bt, ct, sn, sf, so, h⟩
  obtain ⟨h1, h2, h3, h4, h5, h6, h7, h8, h9⟩ := h.mono
  have hn := h7.le
  unfold f_X4_back f_X5_back
  rw [hasChild_eq h3.1.1 (by omega), isChild_eq h3.2.2.1.1 (by omega)]
  by_cases hx : ib x1 n = true
  · rw [hx, if_neg (show ¬ bz true = 0 by decide), if_neg (show ¬ bz true = 0 by decide)]
    obtain ⟨i, hi, rfl⟩ := ib_of hx (by omega)
    obtain ⟨I, S, f, o⟩ := st
    obtain ⟨a1, a2, a3⟩ := h7.ok (by omega)
    obtain ⟨⟨g0, g1, g2, g3, g4, g5, g6, g7, g8⟩, ⟨b5, b6, b7, b8⟩, b9, b10⟩ := h3
    have b5' : V2 0 5 = nI I := b5
    have g5' : V 6 5 = nI I := g5
    have hI : I < 2 ^ n := a2.1
    have hI9 : I < 512 := lt_pow (by omega) hI
    rw [cisIn_eq g5 hI (by omega) (by omega), b5', isIn_eq (by omega) (by omega)]
    cases hb : I.testBit i with
    | true => exact ⟨_, V, L, V2, L2, rfl, rfl, h.up L2⟩
    | false =>
      have ho : nI I ||| ishl (1 : Int32) (nI i) = nI (I ||| 2 ^ i) := by rw [ishl_one i (by omega), fa_or]
      have hl : I ||| 2 ^ i < 2 ^ n := or_lt hI (pow_lt hi)
      have hl9 : I ||| 2 ^ i < 512 := lt_pow (by omega) hl
      rw [if_pos (show bz false = 0 from rfl), if_pos (show bz false = 0 from rfl), g5', ho]
      refine ⟨nI (pop (I ||| 2 ^ i)), up2 V 6 5 (nI (I ||| 2 ^ i)), L, up2 V2 0 5 (nI (I ||| 2 ^ i)), L2, ?_, ?_, s, q, ρ, n, K, T, B, Y, G, (I ||| 2 ^ i, S, f, o), nv, bt, ct, sn, sf, so, h1, h2, ⟨⟨g0, g1, g2, g3, g4, rfl, g6, g7, g8⟩, ⟨rfl, b6, b7, b8⟩, b9, b10⟩, h4, h5, h6, Or.inr ⟨a1, hn, ⟨hl, a2.2.1, a2.2.2⟩, a3⟩, h8, h9⟩
      · simp only [bnd, f_X0_howManyIn]
        rw [show up2 V 6 5 (nI (I ||| 2 ^ i)) 6 5 = nI (I ||| 2 ^ i) from rfl, bitCount_pop _ hl9]
      · simp only [bnd]
        rw [show up2 V2 0 5 (nI (I ||| 2 ^ i)) 0 5 = nI (I ||| 2 ^ i) from rfl, size_eq hl9]
        rfl
  · have hx0 : ib x1 n = false := by simpa using hx
    rw [hx0]
    exact ⟨_, V, L, V2, L2, if_pos rfl, if_pos rfl, h.up L2⟩
