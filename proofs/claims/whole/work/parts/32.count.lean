/-! the counting, over Nat: one step round, the next one of a set, on whom it falls, how it slips on -/
def stp (o : Bool) (n i : Nat) : Nat := if o then (if i + 1 < n then i + 1 else 0) else (if 0 < i then i - 1 else n - 1)
def nx (p : Nat → Bool) (o : Bool) (n : Nat) : Nat → Nat → Nat
  | 0, i => i
  | m + 1, i => if p (stp o n i) then stp o n i else nx p o n m (stp o n i)
theorem stp_lt {o : Bool} {n i : Nat} (hi : i < n) : stp o n i < n := by
  unfold stp
  cases o <;> simp <;> split <;> omega
theorem nx_lt {p : Nat → Bool} {o : Bool} {n : Nat} : ∀ (m i : Nat), i < n → nx p o n m i < n := by
  intro m
  induction m with
  | zero => intro i hi; exact hi
  | succ m ih =>
    intro i hi
    rw [nx]
    split
    · exact stp_lt hi
    · exact ih _ (stp_lt hi)
def Ci (c : Nat → Int32) (n T B Y G I S f : Nat) (o : Bool) : Prop := c 0 = nI n ∧ c 1 = nI T ∧ c 2 = nI B ∧ c 3 = nI Y ∧ c 4 = nI G ∧ c 5 = nI I ∧ c 6 = nI S ∧ c 7 = nI f ∧ c 8 = bz o
theorem nextOf_loop {c : Nat → Int32} {n a : Nat} {o : Bool} (h0 : c 0 = nI n) (h8 : c 8 = bz o) (hn : n ≤ 9) (ha : a < 2 ^ 31) :
    ∀ (m fuel i j : Nat), j + m = n → m < fuel → i < n → f_X0_nextOf_5 c (nI a) fuel (nI i) (nI j) = some (nI (nx (fun k => a.testBit k) o n m i)) := by
  intro m
  induction m with
  | zero =>
    intro fuel i j hj hf hi
    obtain ⟨g, rfl⟩ : ∃ g, fuel = g + 1 := ⟨fuel - 1, by omega⟩
    rw [f_X0_nextOf_5, h0, if_pos (nI_le (by omega) (by omega))]
    rfl
  | succ m ih =>
    intro fuel i j hj hf hi
    obtain ⟨g, rfl⟩ : ∃ g, fuel = g + 1 := ⟨fuel - 1, by omega⟩
    have key : ∀ i2 : Nat, i2 < n → f_X0_nextOf_59 (f_X0_nextOf_5 c (nI a) g) c (nI a) (nI i2) (nI j) = some (nI (if a.testBit i2 then i2 else nx (fun k => a.testBit k) o n m i2)) := by
      intro i2 hi2
      unfold f_X0_nextOf_59
      by_cases hb : a.testBit i2 = true
      · rw [if_neg (by rw [ishr_0 ha (by omega), hb]; simp), if_pos hb]
      · rw [if_pos (by rw [ishr_0 ha (by omega)]; simpa using hb), nI_1, ih g i2 (j + 1) (by omega) (by omega) hi2, if_neg hb]
    rw [f_X0_nextOf_5, h0, if_neg (nI_ge (show j < n by omega) (by omega)), h8, nx]
    cases o with
    | false =>
      rw [if_pos (show bz false = 0 from rfl)]
      by_cases h : 0 < i
      · obtain ⟨i3, rfl⟩ : ∃ g, i = g + 1 := ⟨i - 1, by omega⟩
        rw [if_neg (nI_nle (by omega) (by omega)), nI_pred, key i3 (by omega), show stp false n (i3 + 1) = i3 by simp [stp]]
      · obtain ⟨n3, rfl⟩ : ∃ g, n = g + 1 := ⟨n - 1, by omega⟩
        have hi0 : i = 0 := by omega
        subst hi0
        rw [if_pos (show nI 0 ≤ 0 by decide), nI_pred, key n3 (by omega), show stp false (n3 + 1) 0 = n3 by simp [stp]]
    | true =>
      rw [if_neg (show ¬ bz true = 0 by decide)]
      by_cases h : i + 1 < n
      · rw [if_neg (by rw [nI_1]; exact nI_ge h (by omega)), nI_1, key (i + 1) h, show stp true n i = i + 1 by simp [stp, h]]
      · rw [if_pos (by rw [nI_1]; exact nI_le (by omega) (by omega)), ← nI_0, key 0 (by omega), show stp true n i = 0 by simp [stp, h]]
theorem nextOf_eq {c : Nat → Int32} {n a i : Nat} {o : Bool} (h0 : c 0 = nI n) (h8 : c 8 = bz o) (hn : n ≤ 9) (ha : a < 2 ^ 31) (hi : i < n) : f_X0_nextOf c (nI a) (nI i) = some (nI (nx (fun k => a.testBit k) o n n i)) := by
  unfold f_X0_nextOf
  rw [← nI_0]
  exact nextOf_loop h0 h8 hn ha n 20000 i 0 (by omega) (by omega) hi
def tkn (T B i : Nat) : Nat := if B.testBit i then 0 else if T.testBit i then 2 else 1
theorem takenBy_eq {c : Nat → Int32} {T B i : Nat} (h1 : c 1 = nI T) (h2 : c 2 = nI B) (hi : i < 31) : f_X0_takenBy c (nI i) = nI (tkn T B i) := by
  unfold f_X0_takenBy tkn
  rw [h1, h2]
  by_cases hb : B.testBit i = true
  · rw [if_neg (by rw [and_pow_0 hi, hb]; simp), if_pos hb]; rfl
  · rw [if_pos (by rw [and_pow_0 hi]; simpa using hb), if_neg hb]
    by_cases ht : T.testBit i = true
    · rw [if_neg (by rw [and_pow_0 hi, ht]; simp), if_pos ht]; rfl
    · rw [if_pos (by rw [and_pow_0 hi]; simpa using ht), if_neg ht]; rfl
theorem tkn_le (T B i : Nat) : tkn T B i ≤ 2 := by unfold tkn; split <;> (try split) <;> omega
def canB (I B : Nat) : Bool := decide (dif I B ≠ 0) && decide (2 ≤ pop I)
theorem canCount_eq {c : Nat → Int32} {n B I : Nat} (h2 : c 2 = nI B) (h5 : c 5 = nI I) (hn : n ≤ 9) (hI : I < 2 ^ n) : f_X0_canCount c = bz (canB I B) := by
  unfold f_X0_canCount canB
  have hI9 := lt_pow hn hI
  have hd9 := lt_pow hn (dif_lt (b := B) hI)
  rw [h2, h5, nI_dif, bitCount_pop I hI9]
  have hp := pop_le I
  by_cases h : dif I B = 0
  · rw [if_pos (by rw [nI_zero (by omega)]; exact h)]
    simp [h, bz]
  · rw [if_neg (by rw [nI_zero (by omega)]; exact h)]
    by_cases h3 : 2 ≤ pop I
    · rw [if_neg (show ¬ nI (pop I) < 2 from nI_nlt (b := 2) h3 (by omega))]
      simp [h, h3, bz]
    · rw [if_pos (show nI (pop I) < 2 from nI_lt (b := 2) (by omega) (by omega))]
      simp [h, h3, bz]
def fl (p : Nat → Bool) (t : Nat → Nat) (o : Bool) (n : Nat) : Nat → Nat → Nat → Nat
  | 0, i, _ => i
  | m + 1, i, r => if t i ≤ r then fl p t o n m (nx p o n n i) (r - t i) else i
theorem fl_lt {p : Nat → Bool} {t : Nat → Nat} {o : Bool} {n : Nat} : ∀ (m i r : Nat), i < n → fl p t o n m i r < n := by
  intro m
  induction m with
  | zero => intro i r hi; exact hi
  | succ m ih =>
    intro i r hi
    rw [fl]
    split
    · exact ih _ _ (nx_lt _ _ hi)
    · exact hi
theorem sub_ge {a b : Nat} (ha : a < 2 ^ 30) (hb : b < 2 ^ 30) : (0 ≤ nI a - nI b) = (b ≤ a) := by
  apply propext
  rw [Int32.le_iff_toInt_le, pk_sub_toInt ha hb]
  show (0 : Int) ≤ _ ↔ _
  omega
theorem falls_loop {c : Nat → Int32} {n T B a : Nat} {o : Bool} (h0 : c 0 = nI n) (h1 : c 1 = nI T) (h2 : c 2 = nI B) (h8 : c 8 = bz o) (hn : n ≤ 9) (ha : a < 2 ^ 31) :
    ∀ (m fuel i j r : Nat), j + m = n → m < fuel → i < n → r < 1000 → f_X0_fallsOn_74 c (nI a) fuel (nI r) (nI i) (nI j) = some (nI (fl (fun k => a.testBit k) (tkn T B) o n m i r)) := by
  intro m
  induction m with
  | zero =>
    intro fuel i j r hj hf hi hr
    obtain ⟨g, rfl⟩ : ∃ g, fuel = g + 1 := ⟨fuel - 1, by omega⟩
    rw [f_X0_fallsOn_74, h0, if_pos (nI_le (by omega) (by omega))]
    rfl
  | succ m ih =>
    intro fuel i j r hj hf hi hr
    obtain ⟨g, rfl⟩ : ∃ g, fuel = g + 1 := ⟨fuel - 1, by omega⟩
    have ht := tkn_le T B i
    rw [f_X0_fallsOn_74, h0, if_neg (nI_ge (show j < n by omega) (by omega)), takenBy_eq h1 h2 (by omega), fl]
    by_cases hle : tkn T B i ≤ r
    · rw [if_pos (by rw [sub_ge (by omega) (by omega)]; exact hle), if_pos hle, nextOf_eq h0 h8 hn ha hi, pk_sub hle]
      show f_X0_fallsOn_74 c (nI a) g _ _ (nI j + 1) = _
      rw [nI_1]
      exact ih g _ (j + 1) _ (by omega) (by omega) (nx_lt _ _ hi) (by omega)
    · rw [if_neg (by rw [sub_ge (by omega) (by omega)]; exact hle), if_neg hle]
def tog (I T B : Nat) : Nat := pop (dif I B) + pop (dif I B &&& T)
def fallS (n T B I f : Nat) (o : Bool) (beats : Nat) : Nat :=
  fl (fun k => (dif I B).testBit k) (tkn T B) o n n (if (dif I B).testBit f then f else nx (fun k => (dif I B).testBit k) o n n f) ((beats - 1) % tog I T B)
theorem pop_pos {n a : Nat} (hn : n ≤ 9) (ha : a < 2 ^ n) (h : a ≠ 0) : 0 < pop a := by
  obtain ⟨i, hi, hb⟩ := ne0_bit9 ha h
  exact fb_ct_pos.mpr ⟨i, by omega, hb⟩
theorem fallsOn_eq {c : Nat → Int32} {n T B Y G I S f : Nat} {o : Bool} (h : Ci c n T B Y G I S f o) (hn : n ≤ 9) (hI : I < 2 ^ n) (hf : f < n) {beats : Nat} (hb : 1 ≤ beats) (hb2 : beats ≤ 99) (hc : dif I B ≠ 0) :
    f_X0_fallsOn c (nI beats) = some (nI (fallS n T B I f o beats)) := by
  obtain ⟨h0, h1, h2, h3, h4, h5, h6, h7, h8⟩ := h
  have hd := dif_lt (b := B) hI
  have hd9 := lt_pow hn hd
  have ha9 := lt_pow hn (and_lt (b := T) hd)
  have hp := pop_pos hn hd hc
  have hl1 := pop_le (dif I B)
  have hl2 := pop_le (dif I B &&& T)
  simp only [f_X0_fallsOn, bnd]
  rw [h5, h2, nI_dif, h1, nx_and, bitCount_pop _ hd9, bitCount_pop _ ha9, nI_add]
  have ht : 0 < tog I T B := by unfold tog; omega
  have ht2 : tog I T B ≤ 18 := by unfold tog; omega
  show (if nI (tog I T B) ≤ 0 then _ else if nI (tog I T B) = 0 then none else f_X0_fallsOn_42 c (nI (dif I B)) (irem (nI beats - 1) (nI (tog I T B)))) = _
  rw [if_neg (nI_nle ht (by omega)), if_neg (nI_ne0 ht (by omega))]
  obtain ⟨b1, rfl⟩ : ∃ g, beats = g + 1 := ⟨beats - 1, by omega⟩
  rw [nI_pred]
  unfold irem
  rw [pk_rem (by omega) ht (by omega)]
  have hr : b1 % tog I T B < 1000 := Nat.lt_of_lt_of_le (Nat.mod_lt _ ht) (by omega)
  unfold f_X0_fallsOn_42 fallS
  rw [h7]
  rw [show b1 + 1 - 1 = b1 from rfl]
  by_cases hfb : (dif I B).testBit f = true
  · rw [if_neg (by rw [ishr_0 (by omega) (by omega), hfb]; simp), if_pos hfb, ← nI_0]
    exact falls_loop h0 h1 h2 h8 hn (by omega) n 20000 f 0 _ (by omega) (by omega) hf hr
  · rw [if_pos (by rw [ishr_0 (by omega) (by omega)]; simpa using hfb), if_neg hfb, nextOf_eq h0 h8 hn (by omega) hf, ← nI_0]
    exact falls_loop h0 h1 h2 h8 hn (by omega) n 20000 _ 0 _ (by omega) (by omega) (nx_lt _ _ hf) hr
theorem fallS_lt {n T B I f : Nat} {o : Bool} {beats : Nat} (hf : f < n) : fallS n T B I f o beats < n := by
  unfold fallS
  refine fl_lt _ _ _ ?_
  split
  · exact hf
  · exact nx_lt _ _ hf
