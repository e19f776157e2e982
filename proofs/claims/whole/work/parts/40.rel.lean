/-! the relation between the class's state and the reference's -/
def RPg (V V2 : Nat → Nat → Int32) (s : Nat) (q : Nat → Nat) : Prop := V 1 1 = nI s ∧ V2 0 13 = nI s ∧ s ≤ 20 ∧ ∀ i, i < s → V 2 i = nI (q i) ∧ V2 14 i = nI (q i) ∧ 32 ≤ q i ∧ q i ≤ 126
def RRg (V V2 : Nat → Nat → Int32) (N ρ : Nat) : Prop := V 0 5 = nI ρ ∧ V2 0 0 = nI ρ ∧ ρ ≤ N
def RCi (V V2 : Nat → Nat → Int32) (n : Nat) (K : Nat → Nat) (T B Y G : Nat) (st : Nat × Nat × Nat × Bool) : Prop := CiS (V 6) n T B Y G st ∧ (V2 0 5 = nI st.1 ∧ V2 0 6 = nI st.2.1 ∧ V2 0 7 = nI st.2.2.1 ∧ V2 0 8 = bz st.2.2.2) ∧ Mb V2 n K ∧ KB n K T B Y G
def RVe (V V2 : Nat → Nat → Int32) (nv : Nat) (bt : Nat → Nat) : Prop := V 5 2 = nI nv ∧ V2 0 2 = nI nv ∧ nv ≤ 3 ∧ ∀ v, v < nv → V 7 v = nI (bt v) ∧ V2 3 v = nI (bt v) ∧ 1 ≤ bt v ∧ bt v ≤ 99
def RCt (V V2 : Nat → Nat → Int32) (ct : Nat) : Prop := V 5 3 = nI ct ∧ V2 0 9 = nI ct ∧ ct ≤ 999
def RSn (V V2 : Nat → Nat → Int32) (n sn : Nat) (sf so : Nat → Nat) : Prop := V 5 6 = nI sn ∧ V2 0 10 = nI sn ∧ sn ≤ 6 ∧ ∀ k, k < sn → (V 8 k = nI (sf k) ∧ V2 11 k = nI (sf k) ∧ sf k < n) ∧ (V 9 k = nI (so k) ∧ V2 12 k = nI (so k) ∧ so k < n)
def RSh (n : Nat) (st : Nat × Nat × Nat × Bool) (nv ct sn : Nat) : Prop := (n = 0 ∧ st = (0, 0, 0, false) ∧ nv = 0 ∧ ct = 0 ∧ sn = 0) ∨ (2 ≤ n ∧ n ≤ 8 ∧ Sok n st ∧ 1 ≤ nv)
/-- what an IMAGE holds -/
def RIm (V V2 : Nat → Nat → Int32) (n nv : Nat) : Prop := ∃ (K : Nat → Nat) (T B Y G : Nat) (st : Nat × Nat × Nat × Bool) (bt : Nat → Nat) (ct sn : Nat) (sf so : Nat → Nat),
  (CiS (V 11) n T B Y G st ∧ KB n K T B Y G ∧ Sok n st ∧ 2 ≤ n ∧ n ≤ 8) ∧ (V2 0 39 = nI st.1 ∧ V2 0 40 = nI st.2.1 ∧ V2 0 41 = nI st.2.2.1 ∧ V2 0 42 = bz st.2.2.2) ∧ (∀ i, i < n → V2 45 i = nI (K i)) ∧
  (V 10 2 = nI nv ∧ ∀ v, v < nv → V 12 v = nI (bt v) ∧ V2 46 v = nI (bt v) ∧ 1 ≤ bt v ∧ bt v ≤ 99) ∧ (V 10 3 = nI ct ∧ V2 0 43 = nI ct ∧ ct ≤ 999) ∧
  (V 10 6 = nI sn ∧ V2 0 44 = nI sn ∧ sn ≤ 6 ∧ ∀ k, k < sn → (V 13 k = nI (sf k) ∧ V2 47 k = nI (sf k) ∧ sf k < n) ∧ (V 14 k = nI (so k) ∧ V2 48 k = nI (so k) ∧ so k < n))
def RKp (V V2 : Nat → Nat → Int32) (ρ n nv : Nat) : Prop := ∃ (km : Bool) (κ : Nat), V2 0 37 = bz km ∧ V2 0 38 = nI κ ∧ κ ≤ ρ ∧ V 0 4 = bz (km && decide (κ = ρ)) ∧ (km = true → κ = ρ → RIm V V2 n nv)
/-- a circle as one number -/
def keyN (n T B Y G : Nat) (st : Nat × Nat × Nat × Bool) : Nat := ((((n * 256 + T) * 256 + B) * 256 + Y) * 256 + G) * 8388608 + ((((if st.2.2.2 then 1 else 0) * 16 + st.2.2.1) * 512 + st.2.1) * 512 + st.1)
/-- how many of 3 to the m ways leave c alone -/
def wy (n T B Y G c : Nat) : Nat → (Nat × Nat × Nat × Bool) → Nat
  | 0, st => if st.1 = 2 ^ c then 1 else 0
  | m + 1, st => if canB st.1 B then wy n T B Y G c m (cnt n T B Y G st 1).2 + wy n T B Y G c m (cnt n T B Y G st 2).2 + wy n T B Y G c m (cnt n T B Y G st 3).2 else if st.1 = 2 ^ c then 3 ^ (m + 1) else 0
def RCa (V : Nat → Nat → Int32) (L : Nat → Int64) : Prop :=
  (L 3 = -1 ∨ ∃ (n T B Y G : Nat) (st : Nat × Nat × Nat × Bool), (n ≤ 8 ∧ T < 2 ^ n ∧ B < 2 ^ n ∧ Y < 2 ^ n ∧ G < 2 ^ n ∧ Sok n st) ∧ L 3 = lN (keyN n T B Y G st) ∧ ∀ b, 1 ≤ b → b ≤ 60 → V 17 b = one (down n T B Y G b n st).1) ∧
  (L 5 = -1 ∨ ∃ (n T B Y G : Nat) (st : Nat × Nat × Nat × Bool), (n ≤ 8 ∧ T < 2 ^ n ∧ B < 2 ^ n ∧ Y < 2 ^ n ∧ G < 2 ^ n ∧ Sok n st) ∧ L 5 = lN (keyN n T B Y G st) ∧ ∀ c, c < 8 → V 18 c = nI (wy n T B Y G c 7 st))
def RelX (N s : Nat) (q : Nat → Nat) (ρ n : Nat) (K : Nat → Nat) (T B Y G : Nat) (st : Nat × Nat × Nat × Bool) (nv : Nat) (bt : Nat → Nat) (ct sn : Nat) (sf so : Nat → Nat) (V : Nat → Nat → Int32) (L : Nat → Int64) (V2 : Nat → Nat → Int32) : Prop :=
  RPg V V2 s q ∧ RRg V V2 N ρ ∧ RCi V V2 n K T B Y G st ∧ RVe V V2 nv bt ∧ RCt V V2 ct ∧ RSn V V2 n sn sf so ∧ RSh n st nv ct sn ∧ RKp V V2 ρ n nv ∧ RCa V L
def Rel : RelT := fun N V L V2 _ => ∃ (s : Nat) (q : Nat → Nat) (ρ n : Nat) (K : Nat → Nat) (T B Y G : Nat) (st : Nat × Nat × Nat × Bool) (nv : Nat) (bt : Nat → Nat) (ct sn : Nat) (sf so : Nat → Nat), RelX N s q ρ n K T B Y G st nv bt ct sn sf so V L V2
theorem RelX.mono {N s : Nat} {q : Nat → Nat} {ρ n : Nat} {K : Nat → Nat} {T B Y G : Nat} {st : Nat × Nat × Nat × Bool} {nv : Nat} {bt : Nat → Nat} {ct sn : Nat} {sf so : Nat → Nat} {V : Nat → Nat → Int32} {L : Nat → Int64} {V2 : Nat → Nat → Int32} (h : RelX N s q ρ n K T B Y G st nv bt ct sn sf so V L V2) : RelX (N + 1) s q ρ n K T B Y G st nv bt ct sn sf so V L V2 :=
  ⟨h.1, ⟨h.2.1.1, h.2.1.2.1, Nat.le_succ_of_le h.2.1.2.2⟩, h.2.2⟩
theorem RelX.up {N s : Nat} {q : Nat → Nat} {ρ n : Nat} {K : Nat → Nat} {T B Y G : Nat} {st : Nat × Nat × Nat × Bool} {nv : Nat} {bt : Nat → Nat} {ct sn : Nat} {sf so : Nat → Nat} {V : Nat → Nat → Int32} {L : Nat → Int64} {V2 : Nat → Nat → Int32} (L2 : Nat → Int64) (h : RelX N s q ρ n K T B Y G st nv bt ct sn sf so V L V2) : Rel (N + 1) V L V2 L2 := ⟨s, q, ρ, n, K, T, B, Y, G, st, nv, bt, ct, sn, sf, so, h.mono⟩
theorem Rel_0 : Rel 0 (fun _ _ => 0) (fun _ => -1) (fun _ _ => 0) (fun _ => 0) := by
  refine ⟨0, fun _ => 0, 0, 0, fun _ => 0, 0, 0, 0, 0, (0, 0, 0, false), 0, fun _ => 0, 0, 0, fun _ => 0, fun _ => 0, ⟨rfl, rfl, by omega, fun i h => by omega⟩, ⟨rfl, rfl, by omega⟩, ⟨⟨rfl, rfl, rfl, rfl, rfl, rfl, rfl, rfl, rfl⟩, ⟨rfl, rfl, rfl, rfl⟩, ⟨rfl, fun i h => by omega⟩, ⟨by decide, by decide, by decide, by decide, fun i h => by omega⟩⟩, ⟨rfl, rfl, by omega, fun i h => by omega⟩, ⟨rfl, rfl, by omega⟩, ⟨rfl, rfl, by omega, fun i h => by omega⟩, Or.inl ⟨rfl, rfl, rfl, rfl, rfl⟩, ⟨false, 0, rfl, rfl, by omega, rfl, fun h => by cases h⟩, Or.inl rfl, Or.inl rfl⟩
/-! checks of arguments -/
theorem ib_of {x : Int32} {n : Nat} (h : ib x n = true) (hn : n < 2 ^ 31) : ∃ i, i < n ∧ x = nI i := vp_in_of (ib_in h) hn
theorem ib_toInt (x : Int32) (n : Nat) : ib x n = decide (0 ≤ x.toInt ∧ x.toInt < (n : Int)) := by
  unfold ib
  rw [Bool.decide_and]
theorem lt0 (x : Int32) : (x < 0) = (x.toInt < 0) := by
  apply propext
  rw [Int32.lt_iff_toInt_lt]
  rfl
theorem nI_le_iff {n : Nat} (hn : n < 2 ^ 31) (x : Int32) : (nI n ≤ x) = ((n : Int) ≤ x.toInt) := by
  apply propext
  rw [Int32.le_iff_toInt_le, nI_toInt hn]
theorem nI_lt_iff {n : Nat} (hn : n < 2 ^ 31) (x : Int32) : (nI n < x) = ((n : Int) < x.toInt) := by
  apply propext
  rw [Int32.lt_iff_toInt_lt, nI_toInt hn]
theorem hasChild_eq {V : Nat → Nat → Int32} {L : Nat → Int64} {n : Nat} (h : V 6 0 = nI n) (hn : n ≤ 9) (x : Int32) : f_X3_hasChild V L x = bz (ib x n) := by
  unfold f_X3_hasChild
  rw [h, ib_toInt]
  by_cases h1 : x.toInt < 0
  · rw [if_pos (by rw [lt0]; exact h1), decide_eq_false (by omega)]; rfl
  · rw [if_neg (by rw [lt0]; exact h1)]
    by_cases h2 : (n : Int) ≤ x.toInt
    · rw [if_pos (by rw [nI_le_iff (by omega)]; exact h2), decide_eq_false (by omega)]; rfl
    · rw [if_neg (by rw [nI_le_iff (by omega)]; exact h2), decide_eq_true (by omega)]; rfl
theorem within_eq {n : Nat} (hn : n ≤ 100) (x : Int32) : f_X5_within x 0 (nI n - 1) = bz (ib x n) := by
  unfold f_X5_within
  rw [ib_toInt]
  have e : (nI n - 1).toInt = (n : Int) - 1 := by
    rw [show (1 : Int32) = nI 1 from by decide, pk_sub_toInt (by omega) (by omega)]
    rfl
  by_cases h1 : x.toInt < 0
  · rw [if_pos (by rw [lt0]; exact h1), decide_eq_false (by omega)]; rfl
  · rw [if_neg (by rw [lt0]; exact h1)]
    by_cases h2 : (n : Int) ≤ x.toInt
    · rw [if_pos (by rw [Int32.lt_iff_toInt_lt, e]; omega), decide_eq_false (by omega)]; rfl
    · rw [if_neg (by rw [Int32.lt_iff_toInt_lt, e]; omega), decide_eq_true (by omega)]; rfl
theorem isChild_eq {V : Nat → Nat → Int32} {L : Nat → Int64} {n : Nat} (h : V 0 1 = nI n) (hn : n ≤ 9) (x : Int32) : f_X5_isChild V L x = bz (ib x n) := by
  unfold f_X5_isChild
  rw [h]
  exact within_eq (by omega) x
theorem isVerse_eq {V : Nat → Nat → Int32} {L : Nat → Int64} {n : Nat} (h : V 0 2 = nI n) (hn : n ≤ 9) (x : Int32) : f_X5_isVerse V L x = bz (ib x n) := by
  unfold f_X5_isVerse
  rw [h]
  exact within_eq (by omega) x
theorem hasVerse_eq {V : Nat → Nat → Int32} {L : Nat → Int64} {n : Nat} (h : V 5 2 = nI n) (hn : n ≤ 3) (x : Int32) : f_X3_hasVerse V L x = bz (ib x n) := by
  unfold f_X3_hasVerse
  rw [h, ib_toInt]
  by_cases h1 : x.toInt < 0
  · rw [if_pos (by rw [lt0]; exact h1), decide_eq_false (by omega)]; rfl
  · rw [if_neg (by rw [lt0]; exact h1)]
    by_cases h2 : (n : Int) ≤ x.toInt
    · rw [if_pos (by rw [nI_le_iff (by omega)]; exact h2), decide_eq_false (by omega)]; rfl
    · rw [if_neg (by rw [nI_le_iff (by omega)]; exact h2), decide_eq_true (by omega), if_neg (show ¬ (3 : Int32) ≤ x by rw [show (3 : Int32) = nI 3 from by decide, nI_le_iff (by decide)]; omega)]; rfl
theorem within5 (x : Int32) : f_X5_within x 0 4 = bz (ib x 5) := within_eq (n := 5) (by omega) x
theorem isKind_eq (x : Int32) : f_X4_isKind x = bz (ib x 5) := within5 x
theorem isBeats_eq (x : Int32) : f_X4_isBeats x = f_X5_within x 1 99 := rfl
theorem beats_of {x : Int32} (h : ¬ f_X5_within x 1 99 = 0) : ∃ b, 1 ≤ b ∧ b ≤ 99 ∧ x = nI b := by
  unfold f_X5_within at h
  by_cases h1 : x < 1
  · rw [if_pos h1] at h; exact absurd rfl h
  · rw [if_neg h1] at h
    by_cases h2 : (99 : Int32) < x
    · rw [if_pos h2] at h; exact absurd rfl h
    · have g1 : ¬ x.toInt < 1 := fun e => h1 (by rw [Int32.lt_iff_toInt_lt]; exact e)
      have g2 : ¬ 99 < x.toInt := fun e => h2 (by rw [show (99 : Int32) = nI 99 from by decide, nI_lt_iff (by decide)]; exact e)
      have g3 : ib x 100 = true := by rw [ib_toInt]; exact decide_eq_true (by omega)
      obtain ⟨i, hi, rfl⟩ := ib_of g3 (by decide)
      rw [nI_toInt (by omega)] at g1
      exact ⟨i, by omega, by omega, rfl⟩
theorem RSh.le {n : Nat} {st : Nat × Nat × Nat × Bool} {nv ct sn : Nat} (h : RSh n st nv ct sn) : n ≤ 8 := by
  rcases h with ⟨h, -⟩ | ⟨-, h, -⟩ <;> omega
theorem RSh.ok {n : Nat} {st : Nat × Nat × Nat × Bool} {nv ct sn : Nat} (h : RSh n st nv ct sn) (h0 : 0 < n) : 2 ≤ n ∧ Sok n st ∧ 1 ≤ nv := by
  rcases h with ⟨h, -⟩ | ⟨h1, h2, h3, h4⟩
  · omega
  · exact ⟨h1, h3, h4⟩
theorem ib_pos {x : Int32} {n : Nat} (h : ib x n = true) : 0 < n := by
  rw [ib_toInt, decide_eq_true_eq] at h
  omega
