def fo (G i : Nat) (o : Bool) : Bool := if G.testBit i then !o else o
def slc (a Y i S : Nat) : Bool := (Y.testBit i && !S.testBit i) && decide (dif a (2 ^ i) ≠ 0)
def sl (a Y G n : Nat) : Nat → Nat → Nat → Bool → Nat × Nat × Bool
  | 0, i, S, o => (i, S, o)
  | m + 1, i, S, o => if slc a Y i S then sl a Y G n m (nx (fun k => a.testBit k) (fo G i o) n n i) (S ||| 2 ^ i) (fo G i o) else (i, S, o)
theorem sl_lt {a Y G n : Nat} : ∀ (m i S : Nat) (o : Bool), i < n → S < 2 ^ n → (sl a Y G n m i S o).1 < n ∧ (sl a Y G n m i S o).2.1 < 2 ^ n := by
  intro m
  induction m with
  | zero => intro i S o hi hS; exact ⟨hi, hS⟩
  | succ m ih =>
    intro i S o hi hS
    rw [sl]
    split
    · exact ih _ _ _ (nx_lt _ _ hi) (or_lt hS (pow_lt hi))
    · exact ⟨hi, hS⟩
theorem Ci.up6 {c : Nat → Int32} {n T B Y G I S f S2 : Nat} {o : Bool} (h : Ci c n T B Y G I S f o) : Ci (upd c 6 (nI S2)) n T B Y G I S2 f o := by
  obtain ⟨h0, h1, h2, h3, h4, h5, h6, h7, h8⟩ := h
  exact ⟨h0, h1, h2, h3, h4, h5, rfl, h7, h8⟩
theorem Ci.up8 {c : Nat → Int32} {n T B Y G I S f : Nat} {o o2 : Bool} (h : Ci c n T B Y G I S f o) : Ci (upd c 8 (bz o2)) n T B Y G I S f o2 := by
  obtain ⟨h0, h1, h2, h3, h4, h5, h6, h7, h8⟩ := h
  exact ⟨h0, h1, h2, h3, h4, h5, h6, h7, rfl⟩
theorem Ci.up5 {c : Nat → Int32} {n T B Y G I S f I2 : Nat} {o : Bool} (h : Ci c n T B Y G I S f o) : Ci (upd c 5 (nI I2)) n T B Y G I2 S f o := by
  obtain ⟨h0, h1, h2, h3, h4, h5, h6, h7, h8⟩ := h
  exact ⟨h0, h1, h2, h3, h4, rfl, h6, h7, h8⟩
theorem Ci.up7 {c : Nat → Int32} {n T B Y G I S f f2 : Nat} {o : Bool} (h : Ci c n T B Y G I S f o) : Ci (upd c 7 (nI f2)) n T B Y G I S f2 o := by
  obtain ⟨h0, h1, h2, h3, h4, h5, h6, h7, h8⟩ := h
  exact ⟨h0, h1, h2, h3, h4, h5, h6, rfl, h8⟩
theorem slip_loop {n T B Y G I f a : Nat} (hn : n ≤ 9) (ha : a < 2 ^ n) :
    ∀ (m fuel i j S : Nat) (o : Bool) (c : Nat → Int32), Ci c n T B Y G I S f o → j + m = n → m < fuel → i < n → S < 2 ^ n →
      ∃ c2, f_X0_slipOn_17 (nI a) fuel c (nI i) (nI j) = some (nI (sl a Y G n m i S o).1, c2) ∧ Ci c2 n T B Y G I (sl a Y G n m i S o).2.1 f (sl a Y G n m i S o).2.2 := by
  intro m
  induction m with
  | zero =>
    intro fuel i j S o c h hj hf hi hS
    obtain ⟨g, rfl⟩ : ∃ g, fuel = g + 1 := ⟨fuel - 1, by omega⟩
    rw [f_X0_slipOn_17, h.1, if_pos (nI_le (by omega) (by omega))]
    exact ⟨c, rfl, h⟩
  | succ m ih =>
    intro fuel i j S o c h hj hf hi hS
    obtain ⟨g, rfl⟩ : ∃ g, fuel = g + 1 := ⟨fuel - 1, by omega⟩
    have h' := h
    obtain ⟨h0, h1, h2, h3, h4, h5, h6, h7, h8⟩ := h'
    have ha9 := lt_pow hn ha
    have e1 : ((c 3 &&& (c 6 ^^^ (-1 : Int32))) &&& ishl (1 : Int32) (nI i) = 0) = (¬ (Y.testBit i && !S.testBit i) = true) := by
      rw [h3, h6, nI_dif, and_pow_0 (by omega), dif_bit]
      simp
    have e2 : (nI a &&& (ishl (1 : Int32) (nI i) ^^^ (-1 : Int32)) = 0) = (dif a (2 ^ i) = 0) := by
      rw [ishl_one i (by omega), nI_dif, nI_zero (Nat.lt_of_lt_of_le (lt_pow hn (dif_lt ha)) (by decide))]
    rw [f_X0_slipOn_17, h0, if_neg (nI_ge (show j < n by omega) (by omega)), sl]
    by_cases g1 : (Y.testBit i && !S.testBit i) = true
    · rw [if_neg (by rw [e1]; exact not_not_intro g1)]
      by_cases g2 : dif a (2 ^ i) = 0
      · rw [if_pos (by rw [e2]; exact g2), if_neg (by unfold slc; rw [g1, decide_eq_false (not_not_intro g2)]; simp)]
        exact ⟨c, rfl, h⟩
      · rw [if_neg (by rw [e2]; exact g2), if_pos (by unfold slc; rw [g1, decide_eq_true g2]; rfl)]
        have hS2 : c 6 ||| ishl (1 : Int32) (nI i) = nI (S ||| 2 ^ i) := by rw [h6, ishl_one i (by omega), fa_or]
        rw [hS2]
        have hc1 : Ci (upd c 6 (nI (S ||| 2 ^ i))) n T B Y G I (S ||| 2 ^ i) f o := h.up6
        generalize upd c 6 (nI (S ||| 2 ^ i)) = c1 at hc1
        show ∃ c2, (if c1 4 &&& ishl (1 : Int32) (nI i) = 0 then f_X0_slipOn_97 (f_X0_slipOn_17 (nI a) g) c1 (nI a) (nI i) (nI j) else if c1 8 = 0 then f_X0_slipOn_97 (f_X0_slipOn_17 (nI a) g) (upd c1 8 1) (nI a) (nI i) (nI j) else f_X0_slipOn_97 (f_X0_slipOn_17 (nI a) g) (upd c1 8 0) (nI a) (nI i) (nI j)) = some _ ∧ _
        have step : ∀ (c3 : Nat → Int32) (o2 : Bool), Ci c3 n T B Y G I (S ||| 2 ^ i) f o2 → o2 = fo G i o → ∃ c2, f_X0_slipOn_97 (f_X0_slipOn_17 (nI a) g) c3 (nI a) (nI i) (nI j) = some (nI (sl a Y G n m (nx (fun k => a.testBit k) (fo G i o) n n i) (S ||| 2 ^ i) (fo G i o)).1, c2) ∧ Ci c2 n T B Y G I (sl a Y G n m (nx (fun k => a.testBit k) (fo G i o) n n i) (S ||| 2 ^ i) (fo G i o)).2.1 f (sl a Y G n m (nx (fun k => a.testBit k) (fo G i o) n n i) (S ||| 2 ^ i) (fo G i o)).2.2 := by
          intro c3 o2 h3' e
          subst e
          unfold f_X0_slipOn_97
          rw [nextOf_eq h3'.1 h3'.2.2.2.2.2.2.2.2 hn (by omega) hi]
          show ∃ c2, f_X0_slipOn_17 (nI a) g c3 (nI _) (nI j + 1) = _ ∧ _
          rw [nI_1]
          exact ih g _ (j + 1) _ _ c3 h3' (by omega) (by omega) (nx_lt _ _ hi) (or_lt hS (pow_lt hi))
        rw [hc1.2.2.2.2.1]
        by_cases hk : G.testBit i = true
        · rw [if_neg (by rw [and_pow_0 (by omega), hk]; simp), hc1.2.2.2.2.2.2.2.2]
          cases o with
          | false => rw [if_pos (show bz false = 0 from rfl)]; exact step _ true (hc1.up8 (o2 := true)) (by simp [fo, hk])
          | true => rw [if_neg (show ¬ bz true = 0 by decide)]; exact step _ false (hc1.up8 (o2 := false)) (by simp [fo, hk])
        · rw [if_pos (by rw [and_pow_0 (by omega)]; simpa using hk)]
          exact step _ o hc1 (by simp [fo, hk])
    · rw [if_pos (by rw [e1]; exact g1), if_neg (by unfold slc; rw [Bool.eq_false_iff.mpr g1]; simp)]
      exact ⟨c, rfl, h⟩
/-- a COUNT: who is out; then who is in, who slipped, who is first, how it goes -/
def cnt (n T B Y G : Nat) (st : Nat × Nat × Nat × Bool) (beats : Nat) : Nat × (Nat × Nat × Nat × Bool) :=
  let w := sl (dif st.1 B) Y G n n (fallS n T B st.1 st.2.2.1 st.2.2.2 beats) st.2.1 st.2.2.2
  (w.1, dif st.1 (2 ^ w.1), w.2.1, nx (fun k => (dif st.1 (2 ^ w.1)).testBit k) w.2.2 n n w.1, w.2.2)
def CiS (c : Nat → Int32) (n T B Y G : Nat) (st : Nat × Nat × Nat × Bool) : Prop := Ci c n T B Y G st.1 st.2.1 st.2.2.1 st.2.2.2
/-- a state that is as it should be -/
def Sok (n : Nat) (st : Nat × Nat × Nat × Bool) : Prop := st.1 < 2 ^ n ∧ st.2.1 < 2 ^ n ∧ st.2.2.1 < n
theorem cnt_ok {n T B Y G : Nat} {st : Nat × Nat × Nat × Bool} {beats : Nat} (h : Sok n st) : (cnt n T B Y G st beats).1 < n ∧ Sok n (cnt n T B Y G st beats).2 := by
  obtain ⟨h1, h2, h3⟩ := h
  have hw := sl_lt (a := dif st.1 B) (Y := Y) (G := G) n _ st.2.1 st.2.2.2 (fallS_lt (T := T) (B := B) (I := st.1) (o := st.2.2.2) (beats := beats) h3) h2
  exact ⟨hw.1, dif_lt h1, hw.2, nx_lt _ _ hw.1⟩
theorem putOut_eq {c : Nat → Int32} {n T B Y G : Nat} {st : Nat × Nat × Nat × Bool} (h : CiS c n T B Y G st) (hn : n ≤ 9) (hs : Sok n st) {beats : Nat} (hb : 1 ≤ beats) (hb2 : beats ≤ 99) (hc : canB st.1 B = true) :
    ∃ c2, f_X0_putOut c (nI beats) = some (nI (cnt n T B Y G st beats).1, c2) ∧ CiS c2 n T B Y G (cnt n T B Y G st beats).2 := by
  obtain ⟨I, S, f, o⟩ := st
  obtain ⟨h1, h2, h3⟩ := hs
  have h' : Ci c n T B Y G I S f o := h
  have hd : dif I B ≠ 0 := by
    have := (Bool.and_eq_true _ _ |>.mp hc).1
    exact of_decide_eq_true this
  unfold f_X0_putOut
  rw [canCount_eq h'.2.2.1 h'.2.2.2.2.2.1 hn h1, if_neg (by rw [bz_0, show canB I B = true from hc]; simp), fallsOn_eq h' hn h1 h3 hb hb2 hd]
  have hfl : fallS n T B I f o beats < n := fallS_lt h3
  obtain ⟨c3, e3, hc3⟩ := slip_loop (B := B) (T := T) (Y := Y) (G := G) (I := I) (f := f) hn (dif_lt (b := B) h1) n 20000 (fallS n T B I f o beats) 0 S o c h' (by omega) (by omega) hfl h2
  have hw := sl_lt (a := dif I B) (Y := Y) (G := G) n _ S o hfl h2
  show ∃ c2, bd2 (f_X0_slipOn c (nI (fallS n T B I f o beats))) _ = _ ∧ _
  have e4 : f_X0_slipOn c (nI (fallS n T B I f o beats)) = some (nI (sl (dif I B) Y G n n (fallS n T B I f o beats) S o).1, c3) := by
    simp only [f_X0_slipOn, bnd]
    rw [h'.2.2.2.2.2.1, h'.2.2.1, nI_dif, ← nI_0]
    exact e3
  rw [e4]
  show ∃ c2, (bnd (upd c3 5 (c3 5 &&& (ishl (1 : Int32) (nI (sl (dif I B) Y G n n (fallS n T B I f o beats) S o).1) ^^^ (-1 : Int32)))) fun c_4 => bd1 (f_X0_nextOf c_4 (c_4 5) (nI (sl (dif I B) Y G n n (fallS n T B I f o beats) S o).1)) fun r_5 => bnd (upd c_4 7 r_5) fun c_6 => some (nI (sl (dif I B) Y G n n (fallS n T B I f o beats) S o).1, c_6)) = _ ∧ _
  unfold CiS cnt
  generalize sl (dif I B) Y G n n (fallS n T B I f o beats) S o = w at hw hc3 ⊢
  rw [hc3.2.2.2.2.2.1, ishl_one w.1 (by omega), nI_dif]
  have hc4 : Ci (upd c3 5 (nI (dif I (2 ^ w.1)))) n T B Y G (dif I (2 ^ w.1)) w.2.1 f w.2.2 := hc3.up5
  generalize upd c3 5 (nI (dif I (2 ^ w.1))) = c4 at hc4
  have hdd : dif I (2 ^ w.1) < 512 := lt_pow hn (dif_lt (b := 2 ^ w.1) h1)
  show ∃ c2, (bd1 (f_X0_nextOf c4 (c4 5) (nI w.1)) fun r_5 => some (nI w.1, upd c4 7 r_5)) = _ ∧ _
  rw [hc4.2.2.2.2.2.1, nextOf_eq hc4.1 hc4.2.2.2.2.2.2.2.2 hn (by omega) hw.1]
  exact ⟨_, rfl, hc4.up7⟩
theorem putOut_no {c : Nat → Int32} {n T B Y G : Nat} {st : Nat × Nat × Nat × Bool} (h : CiS c n T B Y G st) (hn : n ≤ 9) (hs : Sok n st) {x : Int32} (hc : canB st.1 B = false) : f_X0_putOut c x = some (-1, c) := by
  unfold f_X0_putOut
  rw [canCount_eq h.2.2.1 h.2.2.2.2.2.1 hn hs.1, if_pos (by rw [bz_0, hc])]
/-- COUNTS of so many BEATS, at most m of them -/
def down (n T B Y G beats : Nat) : Nat → (Nat × Nat × Nat × Bool) → (Nat × Nat × Nat × Bool)
  | 0, st => st
  | m + 1, st => if canB st.1 B then down n T B Y G beats m (cnt n T B Y G st beats).2 else st
theorem down_ok {n T B Y G beats : Nat} : ∀ (m : Nat) (st : Nat × Nat × Nat × Bool), Sok n st → Sok n (down n T B Y G beats m st) := by
  intro m
  induction m with
  | zero => intro st h; exact h
  | succ m ih =>
    intro st h
    rw [down]
    split
    · exact ih _ (cnt_ok h).2
    · exact h
theorem one_eq : ∀ a, a < 512 → (if f_J6_bitCount_0f7a4 (nI a) = (1 : Int32) then f_J6_numberOfTrailingZeros_0f7a4 (nI a) else -1) = one a := by decide +kernel
theorem onlyOne_eq {c : Nat → Int32} {n I : Nat} (h5 : c 5 = nI I) (hn : n ≤ 9) (hI : I < 2 ^ n) : f_X0_onlyOneIn c = one I := by
  unfold f_X0_onlyOneIn
  rw [h5]
  exact one_eq I (lt_pow hn hI)
theorem countDown_loop {n T B Y G beats : Nat} (hn : n ≤ 9) (hb : 1 ≤ beats) (hb2 : beats ≤ 99) :
    ∀ (m fuel j : Nat) (st : Nat × Nat × Nat × Bool) (c : Nat → Int32), CiS c n T B Y G st → Sok n st → j + m = n → m < fuel →
      ∃ c2, f_X0_countDown_2 (nI beats) fuel c (nI j) = some (one (down n T B Y G beats m st).1, c2) ∧ CiS c2 n T B Y G (down n T B Y G beats m st) := by
  intro m
  induction m with
  | zero =>
    intro fuel j st c h hs hj hf
    obtain ⟨g, rfl⟩ : ∃ g, fuel = g + 1 := ⟨fuel - 1, by omega⟩
    rw [f_X0_countDown_2, h.1, if_pos (nI_le (by omega) (by omega))]
    unfold f_X0_countDown_29
    rw [onlyOne_eq h.2.2.2.2.2.1 hn hs.1]
    exact ⟨c, rfl, h⟩
  | succ m ih =>
    intro fuel j st c h hs hj hf
    obtain ⟨g, rfl⟩ : ∃ g, fuel = g + 1 := ⟨fuel - 1, by omega⟩
    rw [f_X0_countDown_2, h.1, if_neg (nI_ge (show j < n by omega) (by omega)), canCount_eq h.2.2.1 h.2.2.2.2.2.1 hn hs.1, down]
    by_cases hc : canB st.1 B = true
    · rw [if_neg (by rw [bz_0, hc]; simp), if_pos hc]
      obtain ⟨c2, e2, h2⟩ := putOut_eq h hn hs hb hb2 hc
      rw [e2]
      show ∃ c3, f_X0_countDown_2 (nI beats) g c2 (nI j + 1) = _ ∧ _
      rw [nI_1]
      exact ih g (j + 1) _ c2 h2 (cnt_ok hs).2 (by omega) (by omega)
    · rw [if_pos (by rw [bz_0]; simpa using hc), if_neg hc]
      unfold f_X0_countDown_29
      rw [onlyOne_eq h.2.2.2.2.2.1 hn hs.1]
      exact ⟨c, rfl, h⟩
theorem countDown_eq {n T B Y G beats : Nat} {st : Nat × Nat × Nat × Bool} {c : Nat → Int32} (hn : n ≤ 9) (hb : 1 ≤ beats) (hb2 : beats ≤ 99) (h : CiS c n T B Y G st) (hs : Sok n st) :
    ∃ c2, f_X0_countDown c (nI beats) = some (one (down n T B Y G beats n st).1, c2) ∧ CiS c2 n T B Y G (down n T B Y G beats n st) := by
  unfold f_X0_countDown
  rw [← nI_0]
  exact countDown_loop hn hb hb2 n 20000 0 st c h hs (by omega) (by omega)
