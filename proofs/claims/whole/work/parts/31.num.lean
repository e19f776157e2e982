/-- the bits that are in a and not in b -/
def dif (a b : Nat) : Nat := a ^^^ (a &&& b)
theorem dif_bit (a b i : Nat) : (dif a b).testBit i = (a.testBit i && !b.testBit i) := by
  unfold dif
  rw [Nat.testBit_xor, Nat.testBit_and]
  cases a.testBit i <;> cases b.testBit i <;> rfl
theorem bt_nI {a i : Nat} (hi : i < 32) : bt (nI a) i = a.testBit i := by
  show (BitVec.ofNat 32 a).getLsbD i = a.testBit i
  rw [BitVec.getLsbD_ofNat]
  simp [hi]
theorem nI_dif (a b : Nat) : nI a &&& (nI b ^^^ (-1)) = nI (dif a b) := by
  apply b_ext
  intro i hi
  rw [b_and, b_xor, b_m1 i hi, bt_nI hi, bt_nI hi, bt_nI hi, dif_bit]
  cases a.testBit i <;> cases b.testBit i <;> rfl
theorem ishl_one : ∀ i, i < 31 → ishl 1 (nI i) = nI (2 ^ i) := by decide +kernel
theorem ishr_bit {a i : Nat} (ha : a < 2 ^ 31) (hi : i < 31) : ishr (nI a) (nI i) &&& 1 = nI (if a.testBit i then 1 else 0) := by
  unfold ishr
  rw [pk_shrN ha _ i (s_l i (by omega)), pk_andN (n := a / 2 ^ i) (Nat.lt_of_le_of_lt (Nat.div_le_self _ _) (by omega)) 1 (by decide), Nat.testBit_eq_decide_div_mod_eq]
  congr 1
  have h := Nat.mod_two_eq_zero_or_one (a / 2 ^ i)
  rw [show (2 : Nat) ^ 1 = 2 from rfl]
  rcases h with h | h <;> simp [h]
theorem ishr_0 {a i : Nat} (ha : a < 2 ^ 31) (hi : i < 31) : (ishr (nI a) (nI i) &&& 1 = 0) = (a.testBit i = false) := by
  rw [ishr_bit ha hi]
  cases a.testBit i <;> simp [nI] <;> decide
theorem ishr_1 {a i : Nat} (ha : a < 2 ^ 31) (hi : i < 31) : (ishr (nI a) (nI i) &&& 1 = 1) = (a.testBit i = true) := by
  rw [ishr_bit ha hi]
  cases a.testBit i <;> simp [nI] <;> decide
theorem and_pow_0 {a i : Nat} (hi : i < 31) : (nI a &&& ishl 1 (nI i) = 0) = (a.testBit i = false) := by
  rw [ishl_one i hi]
  exact propext (fa_bit hi)
theorem nI_zero {a : Nat} (h : a < 2 ^ 31) : (nI a = 0) = (a = 0) := by
  rw [← nI_0]
  exact propext (nI_eq h (by decide))
theorem lt_pow {n : Nat} (h : n ≤ 9) {a : Nat} (ha : a < 2 ^ n) : a < 512 := Nat.lt_of_lt_of_le ha (Nat.pow_le_pow_right (by decide) h)
theorem bit_out {n a i : Nat} (ha : a < 2 ^ n) (hi : n ≤ i) : a.testBit i = false := Nat.testBit_lt_two_pow (Nat.lt_of_lt_of_le ha (Nat.pow_le_pow_right (by decide) hi))
theorem bits_lt {n a : Nat} (h : ∀ i, n ≤ i → a.testBit i = false) : a < 2 ^ n := Nat.lt_pow_two_of_testBit a h
theorem dif_lt {n a b : Nat} (ha : a < 2 ^ n) : dif a b < 2 ^ n := bits_lt (fun i hi => by rw [dif_bit, bit_out ha hi]; rfl)
theorem and_lt {n a b : Nat} (ha : a < 2 ^ n) : a &&& b < 2 ^ n := bits_lt (fun i hi => by rw [Nat.testBit_and, bit_out ha hi]; rfl)
theorem or_lt {n a b : Nat} (ha : a < 2 ^ n) (hb : b < 2 ^ n) : a ||| b < 2 ^ n := bits_lt (fun i hi => by rw [Nat.testBit_or, bit_out ha hi, bit_out hb hi]; rfl)
theorem pow_bit (j i : Nat) : (2 ^ j).testBit i = decide (i = j) := by
  rw [Nat.testBit_two_pow]
  by_cases h : j = i
  · subst h; simp
  · rw [decide_eq_false h, decide_eq_false (fun e => h e.symm)]
theorem pow_lt {n j : Nat} (h : j < n) : 2 ^ j < 2 ^ n := Nat.pow_lt_pow_right (by decide) h
/-- how many bits below 9 are set -/
def pop (a : Nat) : Nat := fb_ct (fun k => a.testBit k) 9
theorem bitCount_pop : ∀ a, a < 512 → f_J6_bitCount_0f7a4 (nI a) = nI (pop a) := by decide +kernel
/-- the only one, or -1 -/
def one (a : Nat) : Int32 := if pop a = 1 then nI (fa_first (fun k => a.testBit k) 9) else -1
theorem pop_le (a : Nat) : pop a ≤ 9 := fb_ct_le _ _
theorem eq0_of_bits {a : Nat} (h : ∀ i, a.testBit i = false) : a = 0 := Nat.eq_of_testBit_eq (fun i => by rw [h i, Nat.zero_testBit])
theorem ne0_bit {a : Nat} (h : a ≠ 0) : ∃ i, a.testBit i = true := by
  refine Classical.byContradiction (fun hn => h (eq0_of_bits (fun i => ?_)))
  cases hb : a.testBit i with
  | false => rfl
  | true => exact absurd ⟨i, hb⟩ hn
theorem ne0_bit9 {a n : Nat} (ha : a < 2 ^ n) (h : a ≠ 0) : ∃ i, i < n ∧ a.testBit i = true := by
  obtain ⟨i, hi⟩ := ne0_bit h
  refine ⟨i, Nat.lt_of_not_le (fun hn => ?_), hi⟩
  rw [bit_out ha hn] at hi
  cases hi
def bz (o : Bool) : Int32 := if o then 1 else 0
theorem bz_isz (o : Bool) : isz (bz o) = true := by cases o <;> rfl
theorem bz_0 (o : Bool) : (bz o = 0) = (o = false) := by cases o <;> simp [bz]
