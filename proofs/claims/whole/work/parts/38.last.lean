/-! LAST, and who would be OUT, on both sides -/
theorem fallS_tk {n T B I f beats : Nat} {o : Bool} (hn : n ≤ 9) (hI : I < 2 ^ n) (hf : f < n) (hd : dif I B ≠ 0) : (dif I B).testBit (fallS n T B I f o beats) = true := by
  obtain ⟨t, e, h1, h2⟩ := fallS_at (T := T) (beats := beats) (o := o) hn hI hf hd
  rw [cum_succ, e] at h2
  cases hb : (dif I B).testBit (fallS n T B I f o beats) with
  | true => rfl
  | false =>
    have hw : wgt I T B (fallS n T B I f o beats) = 0 := by unfold wgt; rw [hb]; rfl
    rw [hw] at h2
    omega
theorem sl_tk {a Y G n : Nat} (ha : a < 2 ^ n) : ∀ (m i S : Nat) (o : Bool), i < n → a.testBit i = true → a.testBit (sl a Y G n m i S o).1 = true := by
  intro m
  induction m with
  | zero => intro i S o hi h; exact h
  | succ m ih =>
    intro i S o hi h
    rw [sl]
    split
    · exact ih _ _ _ (nx_lt _ _ hi) (nx_hit (p := fun k => a.testBit k) n _ (ht_any hi hi h))
    · exact h
theorem cnt_in {n T B Y G beats : Nat} {st : Nat × Nat × Nat × Bool} (hn : n ≤ 9) (hs : Sok n st) (hd : dif st.1 B ≠ 0) : (dif st.1 B).testBit (cnt n T B Y G st beats).1 = true :=
  sl_tk (dif_lt hs.1) n _ _ _ (fallS_lt hs.2.2) (fallS_tk hn hs.1 hs.2.2 hd)
theorem pop_dif : ∀ I, I < 512 → ∀ i, i < 9 → I.testBit i = true → pop (dif I (2 ^ i)) + 1 = pop I := by decide +kernel
theorem canB_can {I B : Nat} (h : canB I B = true) : dif I B ≠ 0 ∧ 2 ≤ pop I := by
  obtain ⟨h1, h2⟩ := (Bool.and_eq_true _ _).mp h
  exact ⟨of_decide_eq_true h1, of_decide_eq_true h2⟩
theorem cnt_pop {n T B Y G beats : Nat} {st : Nat × Nat × Nat × Bool} (hn : n ≤ 9) (hs : Sok n st) (hc : canB st.1 B = true) : pop (cnt n T B Y G st beats).2.1 + 1 = pop st.1 := by
  have h1 := cnt_in (T := T) (Y := Y) (G := G) (beats := beats) hn hs (canB_can hc).1
  have h2 := (cnt_ok (T := T) (B := B) (Y := Y) (G := G) (beats := beats) hs).1
  rw [dif_bit, Bool.and_eq_true] at h1
  have h3 : (cnt n T B Y G st beats).1 < 9 := by omega
  exact pop_dif st.1 (lt_pow hn hs.1) (cnt n T B Y G st beats).1 h3 h1.1
def lf (I : Nat) : Nat → Nat → Int32 → Int32
  | _, 0, x => x
  | j, m + 1, x => lf I (j + 1) m (if I.testBit j then nI j else x)
theorem lf_pad {I n : Nat} (hI : I < 2 ^ n) : ∀ (d j : Nat) (x : Int32), n ≤ j → lf I j d x = x := by
  intro d
  induction d with
  | zero => intro j x _; rfl
  | succ d ih => intro j x hj; rw [lf, bit_out hI hj]; exact ih (j + 1) x (by omega)
theorem lf_add (I : Nat) : ∀ (m d j : Nat) (x : Int32), lf I j (m + d) x = lf I (j + m) d (lf I j m x) := by
  intro m
  induction m with
  | zero => intro d j x; rw [Nat.zero_add]; rfl
  | succ m ih =>
    intro d j x
    rw [Nat.succ_add, lf, ih, lf]
    congr 1
    omega
theorem lf_one : ∀ I, I < 512 → (if pop I = 1 then lf I 0 9 (-1) else -1) = one I := by decide +kernel
theorem last_scan {V : Nat → Nat → Int32} {L : Nat → Int64} {n : Nat} {K : Nat → Nat} {st : Nat × Nat × Nat × Bool} (hM : Mb V n K) (hn : n ≤ 9) (hs : Sok n st) :
    ∀ (m fuel j : Nat) (x : Int32), j + m = n → m < fuel → f_X5_lastNow_20 (setD V st) L fuel x (nI j) = some (if pop st.1 = 1 then lf st.1 j m x else -1, setD V st, L) := by
  obtain ⟨I, S, f, o⟩ := st
  have hI9 : I < 512 := lt_pow hn hs.1
  have e1 : setD V (I, S, f, o) 0 1 = nI n := hM.1
  have e5 : setD V (I, S, f, o) 0 5 = nI I := rfl
  have hp := pop_le I
  generalize setD V (I, S, f, o) = W at e1 e5
  intro m
  induction m with
  | zero =>
    intro fuel j x hj hf
    obtain ⟨g, rfl⟩ : ∃ g, fuel = g + 1 := ⟨fuel - 1, by omega⟩
    rw [f_X5_lastNow_20, e1, if_pos (nI_le (by omega) (by omega)), e5, size_eq hI9]
    show (if nI (pop I) = 1 then some (x, W, L) else some (-1, W, L)) = _
    by_cases h : pop I = 1
    · rw [if_pos (by rw [h]; rfl), if_pos h]; rfl
    · rw [if_neg (show ¬ nI (pop I) = (1 : Int32) from fun e => h ((nI_eq (b := 1) (by omega) (by decide)).mp e)), if_neg h]
  | succ m ih =>
    intro fuel j x hj hf
    obtain ⟨g, rfl⟩ : ∃ g, fuel = g + 1 := ⟨fuel - 1, by omega⟩
    rw [f_X5_lastNow_20, e1, if_neg (nI_ge (show j < n by omega) (by omega)), e5, isIn_eq (by omega) (by omega), nI_1, lf]
    show (if bz (I.testBit j) = 0 then _ else _) = some (if pop I = 1 then lf I (j + 1) m (if I.testBit j then nI j else x) else -1, W, L)
    cases hb : I.testBit j with
    | false =>
      rw [if_pos (by rfl)]
      exact ih g (j + 1) x (by omega) (by omega)
    | true =>
      rw [if_neg (by decide)]
      exact ih g (j + 1) (nI j) (by omega) (by omega)
theorem last_loop {V : Nat → Nat → Int32} {L : Nat → Int64} {n : Nat} {K : Nat → Nat} {T B Y G beats : Nat} (hM : Mb V n K) (hn : n ≤ 9) (hB : KB n K T B Y G) (hb : 1 ≤ beats) (hb2 : beats ≤ 99) :
    ∀ (m q fuel : Nat) (st : Nat × Nat × Nat × Bool), Sok n st → m ≤ q → m < fuel → pop st.1 ≤ m → f_X5_lastNow_0 (nI beats) fuel (setD V st) L = some (one (down n T B Y G beats q st).1, setD V (down n T B Y G beats q st), L) := by
  have fin : ∀ (g : Nat) (st : Nat × Nat × Nat × Bool), Sok n st → canB st.1 B = false → f_X5_lastNow_0 (nI beats) (g + 1) (setD V st) L = some (one st.1, setD V st, L) := by
    intro g st hs hc
    rw [f_X5_lastNow_0, isCount_eq hM hn hs hB, hc]
    simp only [bd1]
    rw [if_pos (show bz false = 0 from rfl), ← nI_0, last_scan hM hn hs n 20000 0 (-1) (by omega) (by omega)]
    have h9 : lf st.1 0 n (-1) = lf st.1 0 9 (-1) := by
      obtain ⟨d, hd⟩ := Nat.exists_eq_add_of_le hn
      rw [hd, lf_add, lf_pad hs.1 d _ _ (by omega)]
    rw [h9, lf_one _ (lt_pow hn hs.1)]
  intro m
  induction m with
  | zero =>
    intro q fuel st hs hq hf hp
    obtain ⟨g, rfl⟩ : ∃ g, fuel = g + 1 := ⟨fuel - 1, by omega⟩
    have hc : canB st.1 B = false := by
      cases h : canB st.1 B with
      | false => rfl
      | true => have := (canB_can h).2; omega
    have e : down n T B Y G beats q st = st := by
      cases q with
      | zero => rfl
      | succ q => rw [down, hc]; rfl
    rw [e]
    exact fin g st hs hc
  | succ m ih =>
    intro q fuel st hs hq hf hp
    obtain ⟨g, rfl⟩ : ∃ g, fuel = g + 1 := ⟨fuel - 1, by omega⟩
    obtain ⟨q2, rfl⟩ : ∃ g, q = g + 1 := ⟨q - 1, by omega⟩
    rw [down]
    cases hc : canB st.1 B with
    | false => rw [if_neg (by decide)]; exact fin g st hs hc
    | true =>
      rw [if_pos rfl, f_X5_lastNow_0, isCount_eq hM hn hs hB, hc]
      simp only [bd1]
      rw [if_neg (show ¬ bz true = 0 by decide), goCount_eq hM hn hs hB hb hb2 hc]
      exact ih q2 g _ (cnt_ok hs).2 (by omega) (by omega) (by have := cnt_pop (T := T) (Y := Y) (G := G) (beats := beats) hn hs hc; omega)
theorem pop_n {n I : Nat} (hn : n ≤ 9) (hI : I < 2 ^ n) : pop I ≤ n := by
  unfold pop
  obtain ⟨d, hd⟩ := Nat.exists_eq_add_of_le hn
  have e := fb_ct_split (fun k => I.testBit k) n d
  rw [← hd] at e
  rw [e, (fb_ct_zero (p := fun k => I.testBit (n + k)) (n := d)).mpr (fun k _ => bit_out hI (by omega)), Nat.add_zero]
  exact fb_ct_le _ _
theorem lastNow_eq {V : Nat → Nat → Int32} {L : Nat → Int64} {n : Nat} {K : Nat → Nat} {T B Y G beats : Nat} {st : Nat × Nat × Nat × Bool} (hM : Mb V n K) (hn : n ≤ 9) (hB : KB n K T B Y G) (hb : 1 ≤ beats) (hb2 : beats ≤ 99) (hs : Sok n st) : f_X5_lastNow (setD V st) L (nI beats) = some (one (down n T B Y G beats n st).1, setD V (down n T B Y G beats n st), L) := by
  unfold f_X5_lastNow
  exact last_loop hM hn hB hb hb2 n n 20000 st hs (Nat.le_refl _) (by omega) (pop_n hn hs.1)
def setSv (V : Nat → Nat → Int32) (st : Nat × Nat × Nat × Bool) : Nat → Nat → Int32 := fun a b => if a = 0 then (if b = 18 then nI st.1 else if b = 19 then nI st.2.1 else if b = 20 then nI st.2.2.1 else if b = 21 then bz st.2.2.2 else V 0 b) else V a b
theorem Mb.sv {V : Nat → Nat → Int32} {n : Nat} {K : Nat → Nat} {st : Nat × Nat × Nat × Bool} (h : Mb V n K) : Mb (setSv V st) n K := h
theorem up2_at (V : Nat → Nat → Int32) (j k : Nat) (x : Int32) (a b : Nat) : up2 V j k x a b = if a = j then (if b = k then x else V j b) else V a b := by
  unfold up2 setc upd
  by_cases h : a = j
  · simp [h]
  · simp [h]
theorem save_eq (V : Nat → Nat → Int32) (L : Nat → Int64) (st : Nat × Nat × Nat × Bool) : f_X5_save (setD V st) L = some (setD (setSv V st) st, L) := by
  obtain ⟨I, S, f, o⟩ := st
  simp only [f_X5_save, bnd]
  refine (if_pos (bz_isz o)).trans ?_
  congr 2
  funext a b
  simp only [up2_at]
  unfold setD setSv
  by_cases ha : a = 0
  · subst ha
    by_cases h1 : b = 21
    · subst h1; rfl
    by_cases h2 : b = 20
    · subst h2; rfl
    by_cases h3 : b = 19
    · subst h3; rfl
    by_cases h4 : b = 18
    · subst h4; rfl
    simp [h1, h2, h3, h4]
  · simp [ha]
theorem load_eq (V : Nat → Nat → Int32) (L : Nat → Int64) (st st2 : Nat × Nat × Nat × Bool) : f_X5_load (setD (setSv V st) st2) L = some (setD (setSv V st) st, L) := by
  obtain ⟨I, S, f, o⟩ := st
  obtain ⟨I2, S2, f2, o2⟩ := st2
  simp only [f_X5_load, bnd]
  refine (if_pos (bz_isz o)).trans ?_
  congr 2
  funext a b
  simp only [up2_at]
  unfold setD setSv
  by_cases ha : a = 0
  · subst ha
    by_cases h1 : b = 5
    · subst h1; rfl
    by_cases h2 : b = 6
    · subst h2; rfl
    by_cases h3 : b = 7
    · subst h3; rfl
    by_cases h4 : b = 8
    · subst h4; rfl
    simp [h1, h2, h3, h4]
  · simp [ha]
theorem lastBy_eq {V : Nat → Nat → Int32} {L : Nat → Int64} {n : Nat} {K : Nat → Nat} {T B Y G beats : Nat} {st : Nat × Nat × Nat × Bool} (hM : Mb V n K) (hn : n ≤ 9) (hB : KB n K T B Y G) (hb : 1 ≤ beats) (hb2 : beats ≤ 99) (hs : Sok n st) : f_X5_lastBy (setD V st) L (nI beats) = some (one (down n T B Y G beats n st).1, setD (setSv V st) st, L) := by
  unfold f_X5_lastBy
  rw [save_eq]
  show bd3 (f_X5_lastNow (setD (setSv V st) st) L (nI beats)) _ = _
  rw [lastNow_eq (hM.sv) hn hB hb hb2 hs]
  show bd2 (f_X5_load (setD (setSv V st) _) L) _ = _
  rw [load_eq]
  rfl
/-- who would be OUT: with one first, by so many BEATS -/
def outS (n T B Y G : Nat) (st : Nat × Nat × Nat × Bool) (from_ beats : Nat) : Int32 := if canB st.1 B then nI (cnt n T B Y G (st.1, st.2.1, from_, st.2.2.2) beats).1 else -1
theorem outBy_ref {V : Nat → Nat → Int32} {L : Nat → Int64} {n : Nat} {K : Nat → Nat} {T B Y G from_ beats : Nat} {st : Nat × Nat × Nat × Bool} (hM : Mb V n K) (hn : n ≤ 9) (hB : KB n K T B Y G) (hb : 1 ≤ beats) (hb2 : beats ≤ 99) (hs : Sok n st) (hf : from_ < n) :
    ∃ V2, f_X5_outBy (setD V st) L (nI from_) (nI beats) = some (outS n T B Y G st from_ beats, setD V2 st, L) ∧ (V2 = V ∨ V2 = setSv V st) := by
  unfold f_X5_outBy outS
  rw [isCount_eq hM hn hs hB]
  cases hc : canB st.1 B with
  | false => exact ⟨V, rfl, Or.inl rfl⟩
  | true =>
    simp only [bd1]
    rw [if_neg (show ¬ bz true = 0 by decide), save_eq]
    obtain ⟨I, S, f, o⟩ := st
    show ∃ V2, (bd3 (f_X5_goCount (up2 (setD (setSv V (I, S, f, o)) (I, S, f, o)) 0 7 (nI from_)) L (nI beats)) fun r_5 V_6 L_7 => bd2 (f_X5_load V_6 L_7) fun V_8 L_9 => some (r_5, V_8, L_9)) = _ ∧ _
    rw [setD_7, goCount_eq (st := (I, S, from_, o)) hM.sv hn ⟨hs.1, hs.2.1, hf⟩ hB hb hb2 hc]
    show ∃ V2, (bd2 (f_X5_load (setD (setSv V (I, S, f, o)) _) L) fun V_8 L_9 => some (nI _, V_8, L_9)) = _ ∧ _
    rw [load_eq]
    exact ⟨_, rfl, Or.inr rfl⟩
/-! the class's trial -/
theorem takeAll_eq {c a : Nat → Int32} {n T B Y G : Nat} {st : Nat × Nat × Nat × Bool} (h : CiS a n T B Y G st) : ∃ c2, f_X0_takeAll c a = some c2 ∧ CiS c2 n T B Y G st := by
  obtain ⟨h0, h1, h2, h3, h4, h5, h6, h7, h8⟩ := h
  simp only [f_X0_takeAll, bnd]
  rw [if_pos (by rw [h8]; exact bz_isz _)]
  exact ⟨_, rfl, h0, h1, h2, h3, h4, h5, h6, h7, h8⟩
theorem leftBy_eq {V : Nat → Nat → Int32} {L : Nat → Int64} {n T B Y G beats : Nat} {st : Nat × Nat × Nat × Bool} (hn : n ≤ 9) (hb : 1 ≤ beats) (hb2 : beats ≤ 99) (h : CiS (V 6) n T B Y G st) (hs : Sok n st) :
    ∃ c2, f_X1_leftBy V L (nI beats) = some (one (down n T B Y G beats n st).1, setc V 16 c2, L) := by
  obtain ⟨c1, e1, h1⟩ := takeAll_eq (c := V 16) h
  obtain ⟨c2, e2, h2⟩ := countDown_eq hn hb hb2 h1 hs
  simp only [f_X1_leftBy, e1, bd1, bnd, setc_at, e2, bd2]
  exact ⟨c2, by rw [setc_setc]⟩
theorem outBy_cls {V : Nat → Nat → Int32} {L : Nat → Int64} {n T B Y G from_ beats : Nat} {st : Nat × Nat × Nat × Bool} (hn : n ≤ 9) (hb : 1 ≤ beats) (hb2 : beats ≤ 99) (h : CiS (V 6) n T B Y G st) (hs : Sok n st) (hf : from_ < n) :
    ∃ c2, f_X1_outBy V L (nI from_) (nI beats) = some (outS n T B Y G st from_ beats, setc V 16 c2, L) := by
  obtain ⟨c1, e1, h1⟩ := takeAll_eq (c := V 16) h
  obtain ⟨I, S, f, o⟩ := st
  have h1' : Ci c1 n T B Y G I S f o := h1
  have h3 : CiS (upd c1 7 (nI from_)) n T B Y G (I, S, from_, o) := h1'.up7
  have hs3 : Sok n (I, S, from_, o) := ⟨hs.1, hs.2.1, hf⟩
  unfold outS
  simp only [f_X1_outBy, e1, bd1, bnd, setc_at, up2, setc_setc]
  cases hc : canB I B with
  | false =>
    rw [putOut_no h3 hn hs3 hc]
    exact ⟨_, by simp only [bd2, setc_setc]; rfl⟩
  | true =>
    obtain ⟨c2, e2, h2⟩ := putOut_eq h3 hn hs3 hb hb2 hc
    rw [e2]
    exact ⟨_, by simp only [bd2, setc_setc]; rfl⟩
