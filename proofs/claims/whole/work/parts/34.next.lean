/-! the reference's side: its state as V with the moving fields set -/
def setD (V : Nat → Nat → Int32) (st : Nat × Nat × Nat × Bool) : Nat → Nat → Int32 := fun a b => if a = 0 then (if b = 5 then nI st.1 else if b = 6 then nI st.2.1 else if b = 7 then nI st.2.2.1 else if b = 8 then bz st.2.2.2 else V 0 b) else V a b
def Mb (V : Nat → Nat → Int32) (n : Nat) (K : Nat → Nat) : Prop := V 0 1 = nI n ∧ ∀ i, i < n → V 4 i = nI (K i)
def KB (n : Nat) (K : Nat → Nat) (T B Y G : Nat) : Prop := T < 2 ^ n ∧ B < 2 ^ n ∧ Y < 2 ^ n ∧ G < 2 ^ n ∧ ∀ i, i < n → K i ≤ 4 ∧ T.testBit i = decide (K i = 1) ∧ B.testBit i = decide (K i = 2) ∧ Y.testBit i = decide (3 ≤ K i) ∧ G.testBit i = decide (K i = 4)
theorem setD_5 (V : Nat → Nat → Int32) (I S f : Nat) (o : Bool) (I2 : Nat) : up2 (setD V (I, S, f, o)) 0 5 (nI I2) = setD V (I2, S, f, o) := by
  funext a b
  unfold up2 setc upd setD
  by_cases ha : a = 0
  · by_cases hb : b = 5 <;> simp [ha, hb]
  · simp [ha]
theorem setD_6 (V : Nat → Nat → Int32) (I S f : Nat) (o : Bool) (S2 : Nat) : up2 (setD V (I, S, f, o)) 0 6 (nI S2) = setD V (I, S2, f, o) := by
  funext a b
  unfold up2 setc upd setD
  by_cases ha : a = 0
  · by_cases hb : b = 6 <;> simp [ha, hb]
  · simp [ha]
theorem setD_7 (V : Nat → Nat → Int32) (I S f : Nat) (o : Bool) (f2 : Nat) : up2 (setD V (I, S, f, o)) 0 7 (nI f2) = setD V (I, S, f2, o) := by
  funext a b
  unfold up2 setc upd setD
  by_cases ha : a = 0
  · by_cases hb : b = 7 <;> simp [ha, hb]
  · simp [ha]
theorem setD_8 (V : Nat → Nat → Int32) (I S f : Nat) (o o2 : Bool) : up2 (setD V (I, S, f, o)) 0 8 (bz o2) = setD V (I, S, f, o2) := by
  funext a b
  unfold up2 setc upd setD
  by_cases ha : a = 0
  · by_cases hb : b = 8 <;> simp [ha, hb]
  · simp [ha]
theorem isIn_eq {a i : Nat} (ha : a < 2 ^ 31) (hi : i < 31) : f_X5_isIn (nI a) (nI i) = bz (a.testBit i) := by
  unfold f_X5_isIn
  cases hb : a.testBit i with
  | true => rw [if_pos (by rw [ishr_1 ha hi]; exact hb)]; rfl
  | false => rw [if_neg (by rw [ishr_1 ha hi, hb]; simp)]; rfl
theorem ib_nI {i n : Nat} (h : i < n) (hn : n < 2 ^ 31) : ib (nI i) n = true := by
  unfold ib
  rw [nI_toInt (by omega), Bool.and_eq_true, decide_eq_true_eq, decide_eq_true_eq]
  omega
theorem takes_eq {k : Nat} (hk : k ≤ 4) : f_X5_takes (nI k) = nI (if k = 1 then 2 else if k = 2 then 0 else 1) := by
  have : ∀ k, k ≤ 4 → f_X5_takes (nI k) = nI (if k = 1 then 2 else if k = 2 then 0 else 1) := by decide +kernel
  exact this k hk
/-- some one of a set is met within m steps -/
def ht (p : Nat → Bool) (o : Bool) (n : Nat) : Nat → Nat → Prop
  | 0, _ => False
  | m + 1, i => p (stp o n i) = true ∨ ht p o n m (stp o n i)
theorem ht_fwd {p : Nat → Bool} {n j : Nat} (hj : j < n) (hp : p j = true) : ∀ (m i : Nat), i < n → (if i < j then j - i else j + n - i) ≤ m → ht p true n m i := by
  intro m
  induction m with
  | zero => intro i hi h; split at h <;> omega
  | succ m ih =>
    intro i hi h
    by_cases e : stp true n i = j
    · exact Or.inl (by rw [e]; exact hp)
    · refine Or.inr (ih _ (stp_lt hi) ?_)
      unfold stp at e ⊢
      simp only [if_true] at e ⊢
      split at h <;> split at e <;> split <;> split <;> omega
theorem ht_bwd {p : Nat → Bool} {n j : Nat} (hj : j < n) (hp : p j = true) : ∀ (m i : Nat), i < n → (if j < i then i - j else i + n - j) ≤ m → ht p false n m i := by
  intro m
  induction m with
  | zero => intro i hi h; split at h <;> omega
  | succ m ih =>
    intro i hi h
    by_cases e : stp false n i = j
    · exact Or.inl (by rw [e]; exact hp)
    · refine Or.inr (ih _ (stp_lt hi) ?_)
      unfold stp at e ⊢
      simp only [Bool.false_eq_true, if_false] at e ⊢
      split at h <;> split at e <;> split <;> split <;> omega
theorem ht_any {p : Nat → Bool} {o : Bool} {n i j : Nat} (hi : i < n) (hj : j < n) (hp : p j = true) : ht p o n n i := by
  cases o with
  | true => exact ht_fwd hj hp n i hi (by split <;> omega)
  | false => exact ht_bwd hj hp n i hi (by split <;> omega)
theorem nx_hit {p : Nat → Bool} {o : Bool} {n : Nat} : ∀ (m i : Nat), ht p o n m i → p (nx p o n m i) = true := by
  intro m
  induction m with
  | zero => intro i h; exact h.elim
  | succ m ih =>
    intro i h
    rw [nx]
    by_cases hp : p (stp o n i) = true
    · rw [if_pos hp]; exact hp
    · rw [if_neg hp]
      exact ih _ (h.resolve_left hp)
theorem nextFrom_loop {V : Nat → Nat → Int32} {L : Nat → Int64} {n : Nat} {K : Nat → Nat} {st : Nat × Nat × Nat × Bool} (hM : Mb V n K) (hn : n ≤ 9) (hs : Sok n st) (hK : ∀ i, i < n → K i ≤ 4) (nb : Bool) :
    ∀ (m fuel i : Nat), ht (fun k => st.1.testBit k && !(nb && decide (K k = 2))) st.2.2.2 n m i → m + 1 < fuel → i < n →
      f_X5_nextFrom_5 (setD V st) L (bz nb) fuel (nI i) 0 = some (nI (nx (fun k => st.1.testBit k && !(nb && decide (K k = 2))) st.2.2.2 n m i)) := by
  obtain ⟨I, S, f, o⟩ := st
  have hI9 : I < 512 := lt_pow hn hs.1
  have e1 : setD V (I, S, f, o) 0 1 = nI n := hM.1
  have e5 : setD V (I, S, f, o) 0 5 = nI I := rfl
  have e8 : setD V (I, S, f, o) 0 8 = bz o := rfl
  have e4 : ∀ i, i < n → setD V (I, S, f, o) 4 i = nI (K i) := fun i hi => hM.2 i hi
  generalize setD V (I, S, f, o) = W at e1 e5 e8 e4
  intro m
  induction m with
  | zero => intro fuel i h; exact h.elim
  | succ m ih =>
    intro fuel i h hf hi
    obtain ⟨g, rfl⟩ : ∃ g, fuel = g + 1 := ⟨fuel - 1, by omega⟩
    obtain ⟨g2, rfl⟩ : ∃ g2, g = g2 + 1 := ⟨g - 1, by omega⟩
    have hn0 : 0 < n := by omega
    have stop : ∀ i2 : Nat, f_X5_nextFrom_5 W L (bz nb) (g2 + 1) (nI i2) 1 = some (nI i2) := by
      intro i2
      rw [f_X5_nextFrom_5, if_neg (by decide)]
    have key : ∀ i2 : Nat, i2 < n → i2 = stp o n i → f_X5_nextFrom_35 (f_X5_nextFrom_5 W L (bz nb) (g2 + 1)) W L (bz nb) (nI i2) = some (nI (nx (fun k => I.testBit k && !(nb && decide (K k = 2))) o n (m + 1) i)) := by
      intro i2 hi2 he
      subst he
      unfold f_X5_nextFrom_35
      rw [e5, isIn_eq (by omega) (by omega), nx]
      cases hb : I.testBit (stp o n i) with
      | false =>
        rw [if_pos (by rfl), if_neg (by simp)]
        exact ih (g2 + 1) _ (h.resolve_left (by simp [hb])) (by omega) hi2
      | true =>
        rw [if_neg (by decide)]
        cases nb with
        | false => rw [if_pos (by rfl), stop, if_pos (by simp)]
        | true =>
          rw [if_neg (by decide), if_pos (ib_nI (by omega) (by omega)), nI_clamp (by omega), e4 _ hi2]
          by_cases hk : K (stp o n i) = 2
          · rw [if_pos (by rw [hk]; decide), if_neg (by simp [hk])]
            exact ih (g2 + 1) _ (h.resolve_left (by simp [hk])) (by omega) hi2
          · rw [if_neg (by rw [show (2 : Int32) = nI 2 from by decide, nI_eq (by have := hK _ hi2; omega) (by decide)]; exact hk), stop, if_pos (by simp [hk])]
    rw [f_X5_nextFrom_5, if_pos rfl, e8, e1]
    cases o with
    | false =>
      rw [if_pos (by rfl), if_neg (nI_ne0 hn0 (by omega))]
      obtain ⟨n3, rfl⟩ : ∃ g, n = g + 1 := ⟨n - 1, by omega⟩
      rw [nI_pred, nI_add]
      unfold irem bnd
      rw [pk_rem (by omega) (by omega) (by omega)]
      refine key _ (Nat.mod_lt _ (by omega)) ?_
      unfold stp
      simp only [Bool.false_eq_true, if_false]
      split
      · rw [show i + n3 = (i - 1) + (n3 + 1) by omega, Nat.add_mod_right, Nat.mod_eq_of_lt (by omega)]
      · rw [show i + n3 = n3 by omega, Nat.mod_eq_of_lt (by omega)]
        omega
    | true =>
      rw [if_neg (by decide), if_neg (nI_ne0 hn0 (by omega)), nI_1]
      unfold irem bnd
      rw [pk_rem (by omega) (by omega) (by omega)]
      refine key _ (Nat.mod_lt _ (by omega)) ?_
      unfold stp
      simp only [if_true]
      split
      · rw [Nat.mod_eq_of_lt (by omega)]
      · rw [show i + 1 = n by omega, Nat.mod_self]
theorem nextFrom_in {V : Nat → Nat → Int32} {L : Nat → Int64} {n : Nat} {K : Nat → Nat} {st : Nat × Nat × Nat × Bool} (hM : Mb V n K) (hn : n ≤ 9) (hs : Sok n st) (hK : ∀ i, i < n → K i ≤ 4) {i j : Nat} (hi : i < n) (hj : j < n) (hp : st.1.testBit j = true) :
    f_X5_nextFrom (setD V st) L (nI i) 0 = some (nI (nx (fun k => st.1.testBit k) st.2.2.2 n n i)) := by
  have e : (fun k => st.1.testBit k && !(false && decide (K k = 2))) = (fun k => st.1.testBit k) := by funext k; simp
  have h := nextFrom_loop (L := L) hM hn hs hK false n 20000 i (by rw [e]; exact ht_any hi hj hp) (by omega) hi
  rw [e] at h
  exact h
theorem nx_cong {p q : Nat → Bool} {o : Bool} {n : Nat} (h : ∀ k, k < n → p k = q k) : ∀ (m i : Nat), i < n → nx p o n m i = nx q o n m i := by
  intro m
  induction m with
  | zero => intro i hi; rfl
  | succ m ih =>
    intro i hi
    rw [nx, nx, h _ (stp_lt hi), ih _ (stp_lt hi)]
theorem KB.tk {n : Nat} {K : Nat → Nat} {T B Y G : Nat} (h : KB n K T B Y G) (I : Nat) {k : Nat} (hk : k < n) : (I.testBit k && !(true && decide (K k = 2))) = (dif I B).testBit k := by
  rw [dif_bit, (h.2.2.2.2 k hk).2.2.1]
  simp
theorem nextFrom_tk {V : Nat → Nat → Int32} {L : Nat → Int64} {n : Nat} {K : Nat → Nat} {T B Y G : Nat} {st : Nat × Nat × Nat × Bool} (hM : Mb V n K) (hn : n ≤ 9) (hs : Sok n st) (hB : KB n K T B Y G) {i j : Nat} (hi : i < n) (hj : j < n) (hp : (dif st.1 B).testBit j = true) :
    f_X5_nextFrom (setD V st) L (nI i) 1 = some (nI (nx (fun k => (dif st.1 B).testBit k) st.2.2.2 n n i)) := by
  have h := nextFrom_loop (L := L) hM hn hs (fun i hi => (hB.2.2.2.2 i hi).1) true n 20000 i (ht_any hi hj ((hB.tk st.1 hj).trans hp)) (by omega) hi
  rw [nx_cong (fun k hk => hB.tk st.1 hk) n i hi] at h
  exact h
