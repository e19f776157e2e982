/-! the reference's COUNT is the class's -/
theorem size_loop {a : Nat} (ha : a < 2 ^ 31) : ∀ (m fuel j x : Nat), j + m = 24 → m < fuel → x ≤ 24 → x = fb_ct (fun k => a.testBit k) j → f_X5_size_4 (nI a) fuel (nI x) (nI j) = some (nI (fb_ct (fun k => a.testBit k) 24)) := by
  intro m
  induction m with
  | zero =>
    intro fuel j x hj hf hx e
    obtain ⟨g, rfl⟩ : ∃ g, fuel = g + 1 := ⟨fuel - 1, by omega⟩
    have hj24 : j = 24 := by omega
    subst hj24
    rw [f_X5_size_4, if_pos (by decide), e]
  | succ m ih =>
    intro fuel j x hj hf hx e
    obtain ⟨g, rfl⟩ : ∃ g, fuel = g + 1 := ⟨fuel - 1, by omega⟩
    rw [f_X5_size_4, if_neg (show ¬ (24 : Int32) ≤ nI j from nI_ge (b := 24) (by omega) (by decide)), ishr_bit ha (by omega), nI_add]
    unfold bnd
    rw [nI_1]
    have hb : x + (if a.testBit j = true then 1 else 0) = fb_ct (fun k => a.testBit k) (j + 1) := by rw [fb_ct_succ, e]
    exact ih g (j + 1) _ (by omega) (by omega) (by rw [hb]; exact Nat.le_trans (fb_ct_le _ _) (by omega)) hb
theorem size_eq {a : Nat} (ha : a < 512) : f_X5_size (nI a) = some (nI (pop a)) := by
  unfold f_X5_size
  rw [← nI_0, size_loop (by omega) 24 20000 0 0 (by omega) (by omega) (by omega) rfl]
  congr 2
  unfold pop
  have e := fb_ct_split (fun k => a.testBit k) 9 15
  rw [show 9 + 15 = 24 from rfl] at e
  rw [e, (fb_ct_zero (p := fun k => a.testBit (9 + k)) (n := 15)).mpr (fun k _ => bit_out (n := 9) ha (by omega)), Nat.add_zero]
theorem KB.tak {n : Nat} {K : Nat → Nat} {T B Y G : Nat} (h : KB n K T B Y G) {k : Nat} (hk : k < n) : (if K k = 1 then 2 else if K k = 2 then 0 else 1) = tkn T B k := by
  obtain ⟨-, -, -, -, h5⟩ := h
  obtain ⟨h1, h2, h3, -⟩ := h5 k hk
  unfold tkn
  rw [h2, h3]
  by_cases e1 : K k = 1
  · rw [if_pos e1, decide_eq_false (by omega), decide_eq_true e1]; rfl
  · by_cases e2 : K k = 2
    · rw [if_neg e1, if_pos e2, decide_eq_true e2]; rfl
    · rw [if_neg e1, if_neg e2, decide_eq_false e2, decide_eq_false e1]; rfl
theorem wgt_in {I T B k : Nat} (h : I.testBit k = true) : wgt I T B k = tkn T B k := by
  unfold wgt tkn
  rw [dif_bit, h]
  cases B.testBit k <;> simp
theorem wgt_out {I T B k : Nat} (h : I.testBit k = false) : wgt I T B k = 0 := by
  unfold wgt
  rw [dif_bit, h]
  rfl
theorem wgt_le (I T B k : Nat) : wgt I T B k ≤ 2 := by
  unfold wgt
  have := tkn_le T B k
  split <;> omega
theorem beatsIn_loop {V : Nat → Nat → Int32} {L : Nat → Int64} {n : Nat} {K : Nat → Nat} {T B Y G : Nat} {st : Nat × Nat × Nat × Bool} (hM : Mb V n K) (hn : n ≤ 9) (hs : Sok n st) (hB : KB n K T B Y G) :
    ∀ (m fuel j x : Nat), j + m = n → m < fuel → x = fb_sm (wgt st.1 T B) j → f_X5_beatsIn_4 (setD V st) L fuel (nI x) (nI j) = some (nI (fb_sm (wgt st.1 T B) n)) := by
  obtain ⟨I, S, f, o⟩ := st
  have hI9 : I < 512 := lt_pow hn hs.1
  have e1 : setD V (I, S, f, o) 0 1 = nI n := hM.1
  have e5 : setD V (I, S, f, o) 0 5 = nI I := rfl
  have e4 : ∀ i, i < n → setD V (I, S, f, o) 4 i = nI (K i) := fun i hi => hM.2 i hi
  generalize setD V (I, S, f, o) = W at e1 e5 e4
  intro m
  induction m with
  | zero =>
    intro fuel j x hj hf e
    obtain ⟨g, rfl⟩ : ∃ g, fuel = g + 1 := ⟨fuel - 1, by omega⟩
    have hjn : j = n := by omega
    subst hjn
    rw [f_X5_beatsIn_4, e1, if_pos (nI_le (by omega) (by omega)), e]
  | succ m ih =>
    intro fuel j x hj hf e
    obtain ⟨g, rfl⟩ : ∃ g, fuel = g + 1 := ⟨fuel - 1, by omega⟩
    have hjn : j < n := by omega
    rw [f_X5_beatsIn_4, e1, if_neg (nI_ge hjn (by omega)), e5, isIn_eq (by omega) (by omega)]
    cases hb : I.testBit j with
    | false =>
      rw [if_pos (by rfl), nI_1, ← nI_0, nI_add]
      exact ih g (j + 1) _ (by omega) (by omega) (by rw [fb_sm_succ, wgt_out hb, e])
    | true =>
      rw [if_neg (by decide), if_pos (ib_nI (by omega) (by omega)), nI_clamp (by omega), e4 j hjn, takes_eq (hB.2.2.2.2 j hjn).1, hB.tak hjn, nI_add]
      unfold bnd
      rw [nI_1]
      exact ih g (j + 1) _ (by omega) (by omega) (by rw [fb_sm_succ, wgt_in hb, e])
theorem beatsIn_eq {V : Nat → Nat → Int32} {L : Nat → Int64} {n : Nat} {K : Nat → Nat} {T B Y G : Nat} {st : Nat × Nat × Nat × Bool} (hM : Mb V n K) (hn : n ≤ 9) (hs : Sok n st) (hB : KB n K T B Y G) : f_X5_beatsIn (setD V st) L = some (nI (tog st.1 T B)) := by
  unfold f_X5_beatsIn
  rw [tog_sm hn hs.1, ← nI_0]
  exact beatsIn_loop hM hn hs hB n 20000 0 0 (by omega) (by omega) rfl
theorem tog_pos {n I T B : Nat} (hn : n ≤ 9) (hI : I < 2 ^ n) : (0 < tog I T B) = (dif I B ≠ 0) := by
  apply propext
  constructor
  · intro h e
    unfold tog at h
    rw [e, Nat.zero_and] at h
    exact absurd h (by decide)
  · intro h
    have := pop_pos hn (dif_lt (b := B) hI) h
    unfold tog
    omega
theorem tog_le (I T B : Nat) : tog I T B ≤ 18 := by
  have h1 := pop_le (dif I B)
  have h2 := pop_le (dif I B &&& T)
  unfold tog
  omega
theorem isCount_eq {V : Nat → Nat → Int32} {L : Nat → Int64} {n : Nat} {K : Nat → Nat} {T B Y G : Nat} {st : Nat × Nat × Nat × Bool} (hM : Mb V n K) (hn : n ≤ 9) (hs : Sok n st) (hB : KB n K T B Y G) : f_X5_isCount (setD V st) L = some (bz (canB st.1 B)) := by
  unfold f_X5_isCount
  have hI9 : st.1 < 512 := lt_pow hn hs.1
  have hp := pop_le st.1
  have ht := tog_le st.1 T B
  have hpos := tog_pos (T := T) (B := B) hn hs.1
  rw [show setD V st 0 5 = nI st.1 from rfl, size_eq hI9]
  show (if nI (pop st.1) ≤ 1 then some (0 : Int32) else bd1 (f_X5_beatsIn (setD V st) L) fun r_2 => if r_2 ≤ 0 then some 0 else some 1) = _
  unfold canB
  by_cases h : pop st.1 ≤ 1
  · rw [if_pos (show nI (pop st.1) ≤ (1 : Int32) from nI_le (b := 1) h (by decide)), decide_eq_false (show ¬ 2 ≤ pop st.1 by omega), Bool.and_false]
    rfl
  · rw [if_neg (show ¬ nI (pop st.1) ≤ (1 : Int32) from nI_ge (a := 1) (by omega) (by omega)), beatsIn_eq hM hn hs hB, decide_eq_true (show 2 ≤ pop st.1 by omega), Bool.and_true]
    show (if nI (tog st.1 T B) ≤ 0 then some (0 : Int32) else some 1) = _
    by_cases hd : dif st.1 B ≠ 0
    · rw [decide_eq_true hd, if_neg (nI_nle (hpos.symm ▸ hd) (by omega))]
      rfl
    · have h0 : tog st.1 T B = 0 := by
        rcases Nat.eq_zero_or_pos (tog st.1 T B) with q | q
        · exact q
        · exact absurd (hpos ▸ q) hd
      rw [decide_eq_false hd, h0, if_pos (by decide)]
      rfl
theorem isSly_eq {V : Nat → Nat → Int32} {L : Nat → Int64} {n : Nat} {K : Nat → Nat} {T B Y G : Nat} {st : Nat × Nat × Nat × Bool} (hM : Mb V n K) (hn : n ≤ 9) (hB : KB n K T B Y G) {i : Nat} (hi : i < n) : f_X5_isSly (setD V st) L (nI i) = some (bz (Y.testBit i)) := by
  obtain ⟨-, -, -, -, h5⟩ := hB
  obtain ⟨h1, -, -, h4, -⟩ := h5 i hi
  unfold f_X5_isSly
  rw [if_pos (ib_nI (show i < 9 by omega) (by decide)), nI_clamp (by omega), show setD V st 4 i = nI (K i) from hM.2 i hi, h4]
  have : ∀ k, k ≤ 4 → (if nI k = 3 then some (1 : Int32) else (if ib (nI i) 9 = true then if nI k = 4 then some (1 : Int32) else some (0 : Int32) else none)) = some (bz (decide (3 ≤ k))) := by
    rw [ib_nI (show i < 9 by omega) (by decide)]
    decide +kernel
  exact this (K i) h1
def anyF (q : Nat → Bool) : Nat → Nat → Bool
  | _, 0 => false
  | j, m + 1 => q j || anyF q (j + 1) m
theorem anyF_iff {q : Nat → Bool} : ∀ (m j : Nat), anyF q j m = true ↔ ∃ e, j ≤ e ∧ e < j + m ∧ q e = true := by
  intro m
  induction m with
  | zero => intro j; constructor
            · intro h; cases h
            · rintro ⟨e, h1, h2, -⟩; omega
  | succ m ih =>
    intro j
    rw [anyF, Bool.or_eq_true, ih]
    constructor
    · rintro (h | ⟨e, h1, h2, h3⟩)
      · exact ⟨j, Nat.le_refl _, by omega, h⟩
      · exact ⟨e, by omega, by omega, h3⟩
    · rintro ⟨e, h1, h2, h3⟩
      rcases Nat.eq_or_lt_of_le h1 with rfl | h
      · exact Or.inl h3
      · exact Or.inr ⟨e, h, by omega, h3⟩
theorem isOther_loop {V : Nat → Nat → Int32} {L : Nat → Int64} {n : Nat} {K : Nat → Nat} {T B Y G : Nat} {st : Nat × Nat × Nat × Bool} (hM : Mb V n K) (hn : n ≤ 9) (hs : Sok n st) (hB : KB n K T B Y G) {i : Nat} (hi : i < n) :
    ∀ (m fuel j : Nat) (b : Bool), j + m = n → m < fuel → f_X5_isOther_4 (setD V st) L (nI i) fuel (bz b) (nI j) = some (bz (b || anyF (fun e => (dif (dif st.1 B) (2 ^ i)).testBit e) j m)) := by
  obtain ⟨I, S, f, o⟩ := st
  have hI9 : I < 512 := lt_pow hn hs.1
  have e1 : setD V (I, S, f, o) 0 1 = nI n := hM.1
  have e5 : setD V (I, S, f, o) 0 5 = nI I := rfl
  have e4 : ∀ i, i < n → setD V (I, S, f, o) 4 i = nI (K i) := fun i hi => hM.2 i hi
  generalize setD V (I, S, f, o) = W at e1 e5 e4
  intro m
  induction m with
  | zero =>
    intro fuel j b hj hf
    obtain ⟨g, rfl⟩ : ∃ g, fuel = g + 1 := ⟨fuel - 1, by omega⟩
    rw [f_X5_isOther_4, e1, if_pos (nI_le (by omega) (by omega)), if_pos (bz_isz b), anyF, Bool.or_false]
  | succ m ih =>
    intro fuel j b hj hf
    obtain ⟨g, rfl⟩ : ∃ g, fuel = g + 1 := ⟨fuel - 1, by omega⟩
    have hjn : j < n := by omega
    have hq : (dif (dif I B) (2 ^ i)).testBit j = ((I.testBit j && !decide (K j = 2)) && !decide (j = i)) := by
      rw [dif_bit, dif_bit, pow_bit, (hB.2.2.2.2 j hjn).2.2.1]
    rw [f_X5_isOther_4, e1, if_neg (nI_ge hjn (by omega)), anyF]
    cases b with
    | true =>
      rw [if_neg (by decide), nI_1]
      have h1 := ih g (j + 1) true (by omega) (by omega)
      show f_X5_isOther_4 W L (nI i) g (bz true) (nI (j + 1)) = _
      rw [h1]
      simp
    | false =>
      rw [if_pos (by rfl), nI_1]
      have h0 := ih g (j + 1) false (by omega) (by omega)
      have h1 := ih g (j + 1) true (by omega) (by omega)
      show (if nI j = nI i then f_X5_isOther_4 W L (nI i) g (bz false) (nI (j + 1)) else if f_X5_isIn (W 0 5) (nI j) = 0 then f_X5_isOther_4 W L (nI i) g (bz false) (nI (j + 1)) else if ib (nI j) 9 = true then if W 4 (nI j).toNatClampNeg = 2 then f_X5_isOther_4 W L (nI i) g (bz false) (nI (j + 1)) else f_X5_isOther_4 W L (nI i) g (bz true) (nI (j + 1)) else none) = _
      rw [h0, h1, e5, isIn_eq (by omega) (by omega), ib_nI (show j < 9 by omega) (by decide), nI_clamp (by omega), e4 j hjn]
      by_cases hji : j = i
      · subst hji
        rw [if_pos rfl]
        simp [hq]
      · rw [if_neg (by rw [nI_eq (by omega) (by omega)]; exact hji)]
        cases hb : I.testBit j with
        | false =>
          rw [if_pos (by rfl)]
          simp [hq, hb]
        | true =>
          rw [if_neg (by decide), if_pos rfl]
          have hk4 := (hB.2.2.2.2 j hjn).1
          by_cases hk : K j = 2
          · rw [if_pos (by rw [hk]; decide)]
            simp [hq, hk]
          · rw [if_neg (by rw [show (2 : Int32) = nI 2 from by decide, nI_eq (by omega) (by decide)]; exact hk)]
            simp [hq, hk, hb, hji]
theorem isOther_eq {V : Nat → Nat → Int32} {L : Nat → Int64} {n : Nat} {K : Nat → Nat} {T B Y G : Nat} {st : Nat × Nat × Nat × Bool} (hM : Mb V n K) (hn : n ≤ 9) (hs : Sok n st) (hB : KB n K T B Y G) {i : Nat} (hi : i < n) : f_X5_isOther (setD V st) L (nI i) = some (bz (decide (dif (dif st.1 B) (2 ^ i) ≠ 0))) := by
  unfold f_X5_isOther
  rw [← nI_0]
  have h := isOther_loop (L := L) hM hn hs hB hi n 20000 0 false (by omega) (by omega)
  refine (show f_X5_isOther_4 (setD V st) L (nI i) 20000 (nI 0) (nI 0) = _ from h).trans ?_
  congr 2
  rw [Bool.false_or, Bool.eq_iff_iff, anyF_iff, decide_eq_true_eq]
  constructor
  · rintro ⟨e, -, -, h3⟩ h0
    rw [h0, Nat.zero_testBit] at h3
    cases h3
  · intro h0
    obtain ⟨e, h1, h2⟩ := ne0_bit9 (dif_lt (b := 2 ^ i) (dif_lt (b := B) hs.1)) h0
    exact ⟨e, by omega, by omega, h2⟩
theorem sub_sub_nI (a b c : Nat) : nI a - nI b - nI c = nI a - nI (b + c) := by
  rw [← nI_add, Int32.sub_eq_add_neg, Int32.sub_eq_add_neg, Int32.sub_eq_add_neg, Int32.neg_add, Int32.sub_eq_add_neg, Int32.add_assoc]
theorem sub_gt {a b : Nat} (ha : a < 2 ^ 30) (hb : b < 2 ^ 30) : (0 < nI a - nI b) = (b < a) := by
  apply propext
  rw [Int32.lt_iff_toInt_lt, pk_sub_toInt ha hb]
  show (0 : Int) < _ ↔ _
  omega
