def alF (q : Nat → Bool) : Nat → Nat → Bool
  | _, 0 => true
  | j, m + 1 => q j && alF q (j + 1) m
/-- does a seen one speak for a verse of so many beats -/
def seenP (n T B Y G : Nat) (st : Nat × Nat × Nat × Bool) (sf so : Nat → Nat) (k j : Nat) : Bool := decide (outS n T B Y G st (sf k) (j + 1) = nI (so k))
section
variable {n : Nat} {K : Nat → Nat} {T B Y G : Nat} {st : Nat × Nat × Nat × Bool} {sn : Nat} {sf so : Nat → Nat}
theorem lenC_in (hn : n ≤ 8) (a2 : Sok n st) {k : Nat} (hk : k < 6) (hf : sf k < n) (k5 : (Nat → Nat → Int32) → (Nat → Int64) → Int32 → Int32 → Option (Int32 × (Nat → Nat → Int32) × (Nat → Int64))) :
    ∀ (m fuel b X : Nat) (V : Nat → Nat → Int32) (L : Nat → Int64), CiS (V 6) n T B Y G st → V 8 k = nI (sf k) → V 9 k = nI (so k) → b + m = 24 → m < fuel → X < 2 ^ 24 →
      ∃ W X', F16 V W ∧ X' < 2 ^ 24 ∧ (∀ j, X'.testBit j = (X.testBit j && (decide (j < b) || seenP n T B Y G st sf so k j))) ∧ f_X1_lengthBits_24 k5 (nI k) fuel V L (nI X) (nI (b + 1)) = k5 W L (nI X') (nI k + 1) := by
  intro m
  induction m with
  | zero =>
    intro fuel b X V L hC h8 h9 hb hf2 hX
    obtain ⟨g, rfl⟩ : ∃ g, fuel = g + 1 := ⟨fuel - 1, by omega⟩
    refine ⟨V, X, F16.rf V, hX, fun j => ?_, ?_⟩
    · by_cases hj : j < b
      · simp [hj]
      · rw [bit_out hX (by omega)]; rfl
    · rw [f_X1_lengthBits_24, if_pos (show (24 : Int32) < nI (b + 1) from nI_lt (a := 24) (by omega) (by omega))]
  | succ m ih =>
    intro fuel b X V L hC h8 h9 hb hf2 hX
    obtain ⟨g, rfl⟩ : ∃ g, fuel = g + 1 := ⟨fuel - 1, by omega⟩
    obtain ⟨W, o1, o2⟩ := outC (L := L) (show n ≤ 9 by omega) (show 1 ≤ b + 1 by omega) (by omega) hC a2 hf
    rw [f_X1_lengthBits_24, if_neg (show ¬ (24 : Int32) < nI (b + 1) from nI_nlt (b := b + 1) (a := 24) (by omega) (by decide)), if_pos (ib_nI hk (by decide)), nI_clamp (by omega), h8, o1]
    simp only [bd3]
    rw [if_pos (ib_nI hk (by decide)), o2 9 (by decide), h9]
    have hC' : CiS (W 6) n T B Y G st := by rw [o2 6 (by decide)]; exact hC
    have h8' : W 8 k = nI (sf k) := by rw [o2 8 (by decide)]; exact h8
    have h9' : W 9 k = nI (so k) := by rw [o2 9 (by decide)]; exact h9
    by_cases hp : outS n T B Y G st (sf k) (b + 1) = nI (so k)
    · rw [if_pos hp, nI_1]
      obtain ⟨W', X', i1, i2, i3, i4⟩ := ih g (b + 1) X W L hC' h8' h9' (by omega) (by omega) hX
      refine ⟨W', X', o2.tr i1, i2, fun j => ?_, i4⟩
      rw [i3]
      by_cases hj : j = b
      · subst hj
        simp [seenP, hp]
      · by_cases hj2 : j < b
        · simp [hj2, show j < b + 1 by omega]
        · simp [hj2, show ¬ j < b + 1 by omega]
    · rw [if_neg hp, nI_pred, ishl_one b (by omega), nI_dif, nI_1]
      simp only [bnd]
      obtain ⟨W', X', i1, i2, i3, i4⟩ := ih g (b + 1) (dif X (2 ^ b)) W L hC' h8' h9' (by omega) (by omega) (dif_lt hX)
      refine ⟨W', X', o2.tr i1, i2, fun j => ?_, i4⟩
      rw [i3, dif_bit, pow_bit]
      by_cases hj : j = b
      · subst hj
        simp [seenP, hp]
      · by_cases hj2 : j < b
        · simp [hj, hj2, show j < b + 1 by omega]
        · simp [hj, hj2, show ¬ j < b + 1 by omega]
theorem lenC_out (hn : n ≤ 8) (a2 : Sok n st) (hs6 : sn ≤ 6) (hf : ∀ k, k < sn → sf k < n) :
    ∀ (m fuel k X : Nat) (V : Nat → Nat → Int32) (L : Nat → Int64), CiS (V 6) n T B Y G st → V 5 6 = nI sn → (∀ k, k < sn → V 8 k = nI (sf k) ∧ V 9 k = nI (so k)) → k + m = sn → m < fuel → X < 2 ^ 24 →
      ∃ W X', F16 V W ∧ X' < 2 ^ 24 ∧ (∀ j, X'.testBit j = (X.testBit j && alF (fun k => seenP n T B Y G st sf so k j) k m)) ∧ f_X1_lengthBits_5 fuel V L (nI X) (nI k) = some (nI X', W, L) := by
  intro m
  induction m with
  | zero =>
    intro fuel k X V L hC h5 h8 hb hf2 hX
    obtain ⟨g, rfl⟩ : ∃ g, fuel = g + 1 := ⟨fuel - 1, by omega⟩
    refine ⟨V, X, F16.rf V, hX, fun j => by simp [alF], ?_⟩
    rw [f_X1_lengthBits_5, h5, if_pos (nI_le (by omega) (by omega))]
  | succ m ih =>
    intro fuel k X V L hC h5 h8 hb hf2 hX
    obtain ⟨g, rfl⟩ : ∃ g, fuel = g + 1 := ⟨fuel - 1, by omega⟩
    have hks : k < sn := by omega
    rw [f_X1_lengthBits_5, h5, if_neg (nI_ge hks (by omega)), if_neg (show ¬ (6 : Int32) ≤ nI k from nI_ge (b := 6) (by omega) (by decide))]
    obtain ⟨W, X1, i1, i2, i3, i4⟩ := lenC_in (sf := sf) (so := so) hn a2 (show k < 6 by omega) (hf k hks) (f_X1_lengthBits_5 g) 24 20000 0 X V L hC (h8 k hks).1 (h8 k hks).2 (by omega) (by omega) hX
    rw [show (1 : Int32) = nI (0 + 1) from by decide, i4, nI_1]
    obtain ⟨W', X', j1, j2, j3, j4⟩ := ih g (k + 1) X1 W L (by rw [i1 6 (by decide)]; exact hC) (by rw [i1 5 (by decide)]; exact h5) (by rw [i1 8 (by decide), i1 9 (by decide)]; exact h8) (by omega) (by omega) i2
    refine ⟨W', X', i1.tr j1, j2, fun j => ?_, j4⟩
    rw [j3, i3, alF]
    simp [Bool.and_assoc]
theorem lenR_in (hn : n ≤ 8) (a2 : Sok n st) (hB : KB n K T B Y G) (hs6 : sn ≤ 6) (hf : ∀ k, k < sn → sf k < n) {b X : Nat} (hb24 : b < 24) (k4 : (Nat → Nat → Int32) → (Nat → Int64) → Int32 → Int32 → Option (Int32 × (Nat → Nat → Int32) × (Nat → Int64))) :
    ∀ (m fuel k : Nat) (w : Bool) (V2 : Nat → Nat → Int32), A2 V2 n K st → V2 0 10 = nI sn → (∀ k, k < sn → V2 11 k = nI (sf k) ∧ V2 12 k = nI (so k)) → k + m = sn → m < fuel →
      ∃ W2, RF V2 W2 ∧ ∀ L2, f_X5_lengthsNow_15 k4 (nI X) (nI (b + 1)) fuel V2 L2 (bz w) (nI k) = k4 W2 L2 (nI (X ||| (if w && alF (fun k => seenP n T B Y G st sf so k b) k m then 2 ^ b else 0))) (nI (b + 2)) := by
  intro m
  induction m with
  | zero =>
    intro fuel k w V2 hA h10 h11 hk hfu
    obtain ⟨g, rfl⟩ : ∃ g, fuel = g + 1 := ⟨fuel - 1, by omega⟩
    refine ⟨V2, RF.rf V2, fun L2 => ?_⟩
    rw [f_X5_lengthsNow_15, h10, if_pos (nI_le (by omega) (by omega)), nI_1]
    cases w with
    | false => rw [if_pos (show bz false = 0 from rfl), ← nI_0, fa_or]; rfl
    | true =>
      rw [if_neg (show ¬ bz true = 0 by decide), nI_pred, ishl_one b (by omega), fa_or]; rfl
  | succ m ih =>
    intro fuel k w V2 hA h10 h11 hk hfu
    obtain ⟨g, rfl⟩ : ∃ g, fuel = g + 1 := ⟨fuel - 1, by omega⟩
    have hks : k < sn := by omega
    cases w with
    | false =>
      obtain ⟨W2, i1, i2⟩ := ih g (k + 1) false V2 hA h10 h11 (by omega) (by omega)
      refine ⟨W2, i1, fun L2 => ?_⟩
      rw [f_X5_lengthsNow_15, h10, if_neg (nI_ge hks (by omega)), if_pos (show bz false = 0 from rfl), nI_1]
      exact i2 L2
    | true =>
      obtain ⟨W, o1, o2⟩ := outR hA (show n ≤ 9 by omega) a2 hB (show 1 ≤ b + 1 by omega) (by omega) (hf k hks)
      obtain ⟨W2, i1, i2⟩ := ih g (k + 1) (seenP n T B Y G st sf so k b) W (hA.rf o2) (by rw [o2.1 10 (by omega)]; exact h10) (by rw [o2.2 11 (by omega) (by omega), o2.2 12 (by omega) (by omega)]; exact h11) (by omega) (by omega)
      refine ⟨W2, o2.tr i1, fun L2 => ?_⟩
      rw [f_X5_lengthsNow_15, h10, if_neg (nI_ge hks (by omega)), if_neg (show ¬ bz true = 0 by decide), if_pos (ib_nI (show k < 6 by omega) (by decide)), nI_clamp (by omega), (h11 k hks).1, o1 L2]
      simp only [bd3]
      rw [if_pos (ib_nI (show k < 6 by omega) (by decide)), o2.2 12 (by omega) (by omega), (h11 k hks).2, nI_1, alF]
      have i2' := i2 L2
      unfold seenP at i2' ⊢
      by_cases hp : outS n T B Y G st (sf k) (b + 1) = nI (so k)
      · rw [if_pos hp, decide_eq_true hp]
        rw [decide_eq_true hp] at i2'
        exact i2'
      · rw [if_neg hp, decide_eq_false hp]
        rw [decide_eq_false hp] at i2'
        exact i2'
theorem lenR_out (hn : n ≤ 8) (a2 : Sok n st) (hB : KB n K T B Y G) (hs6 : sn ≤ 6) (hf : ∀ k, k < sn → sf k < n) :
    ∀ (m fuel b X : Nat) (V2 : Nat → Nat → Int32), A2 V2 n K st → V2 0 10 = nI sn → (∀ k, k < sn → V2 11 k = nI (sf k) ∧ V2 12 k = nI (so k)) → b + m = 24 → m < fuel → X < 2 ^ b →
      ∃ W2 X', RF V2 W2 ∧ X' < 2 ^ 24 ∧ (∀ j, X'.testBit j = (X.testBit j || (decide (b ≤ j) && (decide (j < 24) && alF (fun k => seenP n T B Y G st sf so k j) 0 sn)))) ∧ ∀ L2, f_X5_lengthsNow_4 fuel V2 L2 (nI X) (nI (b + 1)) = some (nI X', W2, L2) := by
  intro m
  induction m with
  | zero =>
    intro fuel b X V2 hA h10 h11 hb hfu hX
    obtain ⟨g, rfl⟩ : ∃ g, fuel = g + 1 := ⟨fuel - 1, by omega⟩
    have hb24 : b = 24 := by omega
    subst hb24
    refine ⟨V2, X, RF.rf V2, hX, fun j => ?_, fun L2 => ?_⟩
    · by_cases hj : 24 ≤ j
      · simp [hj, show ¬ j < 24 by omega]
      · simp [hj]
    · rw [f_X5_lengthsNow_4, if_pos (by decide)]
  | succ m ih =>
    intro fuel b X V2 hA h10 h11 hb hfu hX
    obtain ⟨g, rfl⟩ : ∃ g, fuel = g + 1 := ⟨fuel - 1, by omega⟩
    have hb24 : b < 24 := by omega
    obtain ⟨W, i1, i2⟩ := lenR_in (X := X) hn a2 hB hs6 hf hb24 (f_X5_lengthsNow_4 g) sn 20000 0 true V2 hA h10 h11 (by omega) (by omega)
    have hX2 : X ||| (if true && alF (fun k => seenP n T B Y G st sf so k b) 0 sn then 2 ^ b else 0) < 2 ^ (b + 1) := by
      refine or_lt (Nat.lt_of_lt_of_le hX (Nat.pow_le_pow_right (by decide) (by omega))) ?_
      split
      · exact pow_lt (by omega)
      · exact Nat.two_pow_pos _
    obtain ⟨W2, X', j1, j2, j3, j4⟩ := ih g (b + 1) _ W (hA.rf i1) (by rw [i1.1 10 (by omega)]; exact h10) (by rw [i1.2 11 (by omega) (by omega), i1.2 12 (by omega) (by omega)]; exact h11) (by omega) (by omega) hX2
    refine ⟨W2, X', i1.tr j1, j2, fun j => ?_, fun L2 => ?_⟩
    · rw [j3, Nat.testBit_or]
      by_cases hj : j = b
      · subst hj
        have h1 : ¬ j + 1 ≤ j := by omega
        cases ha : alF (fun k => seenP n T B Y G st sf so k j) 0 sn with
        | true => simp [h1, hb24, pow_bit]
        | false => simp [h1]
      · have hp : ∀ c : Bool, (if c = true then 2 ^ b else 0).testBit j = false := by
          intro c
          cases c
          · simp
          · rw [if_pos rfl, pow_bit, decide_eq_false hj]
        rw [hp]
        by_cases hj2 : b ≤ j
        · simp [hj2, show b + 1 ≤ j by omega]
        · simp [hj2, show ¬ b + 1 ≤ j by omega]
    · rw [f_X5_lengthsNow_4, if_neg (show ¬ (24 : Int32) < nI (b + 1) from nI_nlt (b := b + 1) (a := 24) (by omega) (by decide)), show (1 : Int32) = bz true from rfl, ← nI_0, i2 L2]
      exact j4 L2
end
section
variable {N s : Nat} {q : Nat → Nat} {ρ n : Nat} {K : Nat → Nat} {T B Y G : Nat} {st : Nat × Nat × Nat × Bool} {nv : Nat} {bt : Nat → Nat} {ct sn : Nat} {sf so : Nat → Nat} {V : Nat → Nat → Int32} {L : Nat → Int64} {V2 : Nat → Nat → Int32}
theorem len_both (h : RelX N s q ρ n K T B Y G st nv bt ct sn sf so V L V2) (h0 : 0 < n) : ∃ X W W2, X < 2 ^ 24 ∧ f_X1_lengthBits V L = some (nI X, W, L) ∧ (∀ L2, f_X5_lengthsNow V2 L2 = some (nI X, W2, L2)) ∧ F16 V W ∧ RF V2 W2 := by
  have ha := h.a2
  obtain ⟨h1, h2, h3, h4, h5, ⟨e1, e2, e3, e4⟩, h7, h8, h9⟩ := h
  have hn := h7.le
  obtain ⟨a1, a2, a3⟩ := h7.ok h0
  obtain ⟨W, X, i1, i2, i3, i4⟩ := lenC_out (sf := sf) (so := so) hn a2 e3 (fun k hk => (e4 k hk).1.2.2) sn 20000 0 (2 ^ 24 - 1) V L h3.1 e1 (fun k hk => ⟨(e4 k hk).1.1, (e4 k hk).2.1⟩) (by omega) (by omega) (by omega)
  obtain ⟨W2, X2, j1, j2, j3, j4⟩ := lenR_out (sf := sf) (so := so) hn a2 h3.2.2.2 e3 (fun k hk => (e4 k hk).1.2.2) 24 20000 0 0 V2 ha e2 (fun k hk => ⟨(e4 k hk).1.2.1, (e4 k hk).2.2.1⟩) (by omega) (by omega) (by decide)
  have hX : X2 = X := by
    refine Nat.eq_of_testBit_eq (fun j => ?_)
    rw [i3, j3, Nat.testBit_two_pow_sub_one, Nat.zero_testBit]
    simp
  rw [hX] at j4
  exact ⟨X, W, W2, i2, i4, j4, i1, j1⟩
theorem len_lk (h : RelX N s q ρ n K T B Y G st nv bt ct sn sf so V L V2) (h0 : 0 < n) : Lk V V2 (f_X1_lengthBits V L) (fun L2 => f_X5_lengthsNow V2 L2) := by
  obtain ⟨X, W, W2, i1, i2, i3, i4, i5⟩ := len_both h h0
  exact ⟨nI X, W, L, W2, i2, i3, i4.fc, i5, h.2.2.2.2.2.2.2.2.f16 i4⟩
end
theorem sim_lengths : Sim_lengths Rel := by
  rintro N V L V2 L2 hN ⟨s, q, ρ, n, K, T, B, Y, G, st, nv, bt, ct, sn, sf, so, h⟩
  have h3 := h.2.2.1
  have hn := h.2.2.2.2.2.2.1.le
  unfold f_X4_lengths f_X5_lengths
  rw [hasRing_eq h3.1.1 (by omega), h3.2.2.1.1]
  by_cases h0 : 0 < n
  · rw [decide_eq_true h0, if_neg (show ¬ bz true = 0 by decide), if_neg (nI_ne0 h0 (by omega))]
    obtain ⟨r, W, L1, W2, k1, k2, k3⟩ := (len_lk h h0).rel h
    have k2' : f_X5_lengthsNow V2 L2 = some (r, W2, L2) := k2 L2
    exact ⟨r, W, L1, W2, L2, by rw [k1]; rfl, by rw [k2']; rfl, k3.up L2⟩
  · have hz : n = 0 := by omega
    subst hz
    exact ⟨_, V, L, V2, L2, if_pos rfl, if_pos rfl, h.up L2⟩
