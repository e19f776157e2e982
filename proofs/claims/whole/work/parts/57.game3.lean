section
variable {n : Nat} {K : Nat → Nat} {T B Y G : Nat} {nv : Nat} {bt : Nat → Nat} {a b : Nat} {st : Nat × Nat × Nat × Bool}
theorem like_loop (hnv1 : 1 ≤ nv) (hnv : nv ≤ 3) {V : Nat → Nat → Int32} {L : Nat → Int64} {e : Nat} (he : e ≤ 7) (h23 : V 0 23 = nI e) (h2 : V 0 2 = nI nv) {k28 : (Nat → Nat → Int32) → (Nat → Int64) → Int32 → Option (Int32 × (Nat → Nat → Int32) × (Nat → Int64))} {x1 x2 x3 x4 x5 : Int32} :
    ∀ (m fuel k : Nat), k + m = e → m < fuel → f_X5_layGame_51 k28 V L x1 x2 x3 x4 x5 fuel (nI (nv ^ (7 - k))) (nI k) = f_X5_layGame_78 k28 x1 x2 x3 x4 x5 (nI (nv ^ (7 - e))) 20000 V L 0 := by
  intro m
  induction m with
  | zero =>
    intro fuel k hk hf
    obtain ⟨g, rfl⟩ : ∃ g, fuel = g + 1 := ⟨fuel - 1, by omega⟩
    rw [f_X5_layGame_51, h23, if_pos (nI_le (by omega) (by omega)), show k = e by omega]
  | succ m ih =>
    intro fuel k hk hf
    obtain ⟨g, rfl⟩ : ∃ g, fuel = g + 1 := ⟨fuel - 1, by omega⟩
    have hpw := pow3 nv hnv (7 - k) (by omega)
    have hd : nv ^ (7 - k) / nv = nv ^ (7 - (k + 1)) := by
      rw [show 7 - k = (7 - (k + 1)) + 1 by omega, pow_div hnv1]
    rw [f_X5_layGame_51, h23, if_neg (nI_ge (show k < e by omega) (by omega)), h2, if_neg (nI_ne0 (by omega) (by omega)), pk_div (by omega) (by omega) (by omega), hd, nI_1]
    exact ih g (k + 1) (by omega) (by omega)
theorem fill78 {k28 : (Nat → Nat → Int32) → (Nat → Int64) → Int32 → Option (Int32 × (Nat → Nat → Int32) × (Nat → Int64))} {x1 x2 x3 : Int32} {code told like : Nat} (hl : code + like ≤ 2187) :
    ∀ (m fuel k : Nat) (V : Nat → Nat → Int32), k + m = like → m < fuel → (∀ i, i < k → V 22 (code + i) = nI told) → ∃ W, (∀ i, i < like → W 22 (code + i) = nI told) ∧ (∀ i, i < code → W 22 i = V 22 i) ∧ (∀ x, x ≠ 22 → W x = V x) ∧ ∀ L, f_X5_layGame_78 k28 x1 x2 x3 (nI code) (nI told) (nI like) fuel V L (nI k) = k28 W L (nI (code + like)) := by
  intro m
  induction m with
  | zero =>
    intro fuel k V hk hf h
    obtain ⟨g, rfl⟩ : ∃ g, fuel = g + 1 := ⟨fuel - 1, by omega⟩
    refine ⟨V, fun i hi => h i (by omega), fun _ _ => rfl, fun _ _ => rfl, fun L => ?_⟩
    rw [f_X5_layGame_78, if_pos (nI_le (by omega) (by omega)), nI_add]
  | succ m ih =>
    intro fuel k V hk hf h
    obtain ⟨g, rfl⟩ : ∃ g, fuel = g + 1 := ⟨fuel - 1, by omega⟩
    obtain ⟨W, w1, w2, w3, w4⟩ := ih g (k + 1) (up2 V 22 (code + k) (nI told)) (by omega) (by omega) (fun i hi => by
      rw [up2_at, if_pos rfl]
      by_cases e : i = k
      · rw [if_pos (by omega)]
      · rw [if_neg (by omega)]
        exact h i (by omega))
    refine ⟨W, w1, fun i hi => ?_, fun x hx => (w3 x hx).trans (setc_ne V _ hx), fun L => ?_⟩
    · rw [w2 i hi, up2_at, if_pos rfl, if_neg (by omega)]
    · rw [f_X5_layGame_78, if_neg (nI_ge (show k < like by omega) (by omega)), nI_add, if_pos (ib_nI (show code + k < 2187 by omega) (by decide)), nI_clamp (by omega), nI_1]
      exact w4 L
/-- blocks of codes that are alike follow one another without a gap -/
theorem next_block (hnv1 : 1 ≤ nv) {code : Nat} (hd : nv ^ (7 - (pl n T B Y G nv bt a b 7 st code).2) ∣ code) : nv ^ (7 - (pl n T B Y G nv bt a b 7 st (code + nv ^ (7 - (pl n T B Y G nv bt a b 7 st code).2))).2) ∣ code + nv ^ (7 - (pl n T B Y G nv bt a b 7 st code).2) := by
  have he := pl_le (n := n) (T := T) (B := B) (Y := Y) (G := G) (nv := nv) (bt := bt) (a := a) (b := b) 7 st code
  generalize hc' : code + nv ^ (7 - (pl n T B Y G nv bt a b 7 st code).2) = c'
  have he' := pl_le (n := n) (T := T) (B := B) (Y := Y) (G := G) (nv := nv) (bt := bt) (a := a) (b := b) 7 st c'
  by_cases hle : (pl n T B Y G nv bt a b 7 st code).2 ≤ (pl n T B Y G nv bt a b 7 st c').2
  · have h1 : nv ^ (7 - (pl n T B Y G nv bt a b 7 st c').2) ∣ nv ^ (7 - (pl n T B Y G nv bt a b 7 st code).2) := Nat.pow_dvd_pow _ (by omega)
    have h2 := Nat.dvd_add (Nat.dvd_trans h1 hd) h1
    rw [hc'] at h2
    exact h2
  · -- the plays differ, so the codes differ where the shorter one ended
    have hne : ¬ code / nv ^ (7 - (pl n T B Y G nv bt a b 7 st c').2) = c' / nv ^ (7 - (pl n T B Y G nv bt a b 7 st c').2) := by
      intro h
      have := pl_pre (n := n) (T := T) (B := B) (Y := Y) (G := G) (bt := bt) (a := a) (b := b) hnv1 7 st code c' h
      rw [this] at hle
      exact hle (Nat.le_refl _)
    obtain ⟨x, hx⟩ := hd
    have hpow : nv ^ (7 - (pl n T B Y G nv bt a b 7 st c').2) = nv ^ (7 - (pl n T B Y G nv bt a b 7 st code).2) * nv ^ ((pl n T B Y G nv bt a b 7 st code).2 - (pl n T B Y G nv bt a b 7 st c').2) := by
      rw [← Nat.pow_add]
      congr 1
      omega
    rw [hpow] at hne ⊢
    have hpos : 0 < nv ^ (7 - (pl n T B Y G nv bt a b 7 st code).2) := Nat.pow_pos (by omega)
    have hr : 0 < nv ^ ((pl n T B Y G nv bt a b 7 st code).2 - (pl n T B Y G nv bt a b 7 st c').2) := Nat.pow_pos (by omega)
    have hc2 : c' = nv ^ (7 - (pl n T B Y G nv bt a b 7 st code).2) * (x + 1) := by rw [← hc', Nat.mul_add, Nat.mul_one, ← hx]
    generalize hδ : nv ^ (7 - (pl n T B Y G nv bt a b 7 st code).2) = δ at *
    generalize nv ^ ((pl n T B Y G nv bt a b 7 st code).2 - (pl n T B Y G nv bt a b 7 st c').2) = r at *
    rw [hx, hc2, Nat.mul_div_mul_left _ _ hpos, Nat.mul_div_mul_left _ _ hpos] at hne
    rw [hc2]
    refine Nat.mul_dvd_mul_left _ (Nat.dvd_of_mod_eq_zero ?_)
    refine Classical.byContradiction (fun hm => hne ?_)
    rw [Nat.succ_div_of_not_dvd (fun h => hm (Nat.mod_eq_zero_of_dvd h))]
theorem lay_loop (hn : n ≤ 8) (hB : KB n K T B Y G) (ha : a < n) (hb : b < n) (hnv1 : 1 ≤ nv) (hnv : nv ≤ 3) (hbt : ∀ v, v < nv → 1 ≤ bt v ∧ bt v ≤ 99) (hs : Sok n st) :
    ∀ (M code fuel : Nat) (V : Nat → Nat → Int32), nv ^ 7 ≤ code + M → code ≤ nv ^ 7 → M < fuel → A2 V n K st → Vs V nv bt → (∀ c, c < code → V 22 c = nI (pl n T B Y G nv bt a b 7 st c).1) → nv ^ (7 - (pl n T B Y G nv bt a b 7 st code).2) ∣ code →
      ∃ W, (∀ L, f_X5_layGame_28 (nI a) (nI b) (nI (nv ^ 7)) fuel V L (nI code) = some (nI (nv ^ 7), W, L)) ∧ RF V W ∧ ∀ c, c < nv ^ 7 → W 22 c = nI (pl n T B Y G nv bt a b 7 st c).1 := by
  have hpw := pow3 nv hnv 7 (by omega)
  intro M
  induction M with
  | zero =>
    intro code fuel V hM hc hf hA hV h22 hd
    obtain ⟨g, rfl⟩ : ∃ g, fuel = g + 1 := ⟨fuel - 1, by omega⟩
    refine ⟨V, fun L => ?_, RF.rf V, fun c hcc => h22 c (by omega)⟩
    rw [f_X5_layGame_28, if_pos (nI_le (by omega) (by omega))]
  | succ M ih =>
    intro code fuel V hM hc hf hA hV h22 hd
    obtain ⟨g, rfl⟩ : ∃ g, fuel = g + 1 := ⟨fuel - 1, by omega⟩
    by_cases hend : code = nv ^ 7
    · refine ⟨V, fun L => ?_, RF.rf V, fun c hcc => h22 c (by omega)⟩
      rw [f_X5_layGame_28, if_pos (nI_le (by omega) (by omega))]
    · have hclt : code < nv ^ 7 := by omega
      obtain ⟨U, u1, u2, u3, u4⟩ := play_eq hn hB ha hb hnv1 hnv hbt (show code < 2187 by omega) hA hs hV
      have he := pl_le (n := n) (T := T) (B := B) (Y := Y) (G := G) (nv := nv) (bt := bt) (a := a) (b := b) 7 st code
      have hpos : 0 < nv ^ (7 - (pl n T B Y G nv bt a b 7 st code).2) := Nat.pow_pos (by omega)
      have hfit : code + nv ^ (7 - (pl n T B Y G nv bt a b 7 st code).2) ≤ nv ^ 7 := by
        obtain ⟨x, hx⟩ := hd
        have hp7 : nv ^ 7 = nv ^ (7 - (pl n T B Y G nv bt a b 7 st code).2) * nv ^ (pl n T B Y G nv bt a b 7 st code).2 := by
          rw [← Nat.pow_add]
          congr 1
          omega
        have hclt2 : nv ^ (7 - (pl n T B Y G nv bt a b 7 st code).2) * x < nv ^ (7 - (pl n T B Y G nv bt a b 7 st code).2) * nv ^ (pl n T B Y G nv bt a b 7 st code).2 := by
          rw [← hx, ← hp7]
          exact hclt
        have hlt := Nat.lt_of_mul_lt_mul_left hclt2
        have := Nat.mul_le_mul_left (nv ^ (7 - (pl n T B Y G nv bt a b 7 st code).2)) (show x + 1 ≤ _ from hlt)
        rw [← hp7, Nat.mul_add, Nat.mul_one, ← hx] at this
        exact this
      have hnb := next_block (n := n) (T := T) (B := B) (Y := Y) (G := G) (bt := bt) (a := a) (b := b) (st := st) hnv1 hd
      have hblk : ∀ i, i < nv ^ (7 - (pl n T B Y G nv bt a b 7 st code).2) → pl n T B Y G nv bt a b 7 st (code + i) = pl n T B Y G nv bt a b 7 st code := by
        intro i hi
        refine pl_pre hnv1 7 st (code + i) code ?_
        obtain ⟨x, hx⟩ := hd
        rw [show code + i = nv ^ (7 - (pl n T B Y G nv bt a b 7 st code).2) * x + i by omega, Nat.mul_add_div hpos, Nat.div_eq_of_lt hi, Nat.add_zero]
        exact (Nat.div_eq_of_eq_mul_right hpos hx).symm
      have ht2 := pl_le2 (n := n) (T := T) (B := B) (Y := Y) (G := G) (nv := nv) (bt := bt) (a := a) (b := b) 7 st code
      obtain ⟨W, w1, w2, w3, w4⟩ := fill78 (k28 := f_X5_layGame_28 (nI a) (nI b) (nI (nv ^ 7)) g) (x1 := nI a) (x2 := nI b) (x3 := nI (nv ^ 7)) (code := code) (told := (pl n T B Y G nv bt a b 7 st code).1) (like := nv ^ (7 - (pl n T B Y G nv bt a b 7 st code).2)) (by omega) (nv ^ (7 - (pl n T B Y G nv bt a b 7 st code).2)) 20000 0 U (by omega) (by omega) (fun i hi => by omega)
      have hRF : RF V W := ⟨fun x hx => by rw [w3 0 (by decide)]; exact u3.1 x hx, fun x hx hx2 => by rw [w3 x (by omega)]; exact u3.2 x hx hx2⟩
      have hVW : Vs W nv bt := ⟨by rw [hRF.1 2 (by omega)]; exact hV.1, by rw [hRF.2 3 (by omega) (by omega)]; exact hV.2⟩
      obtain ⟨W', i1, i2, i3⟩ := ih (code + nv ^ (7 - (pl n T B Y G nv bt a b 7 st code).2)) g W (by omega) hfit (by omega) (hA.rf hRF) hVW (fun c hcc => by
        by_cases hlt : c < code
        · rw [w2 c hlt, u4 22 (by decide)]
          exact h22 c hlt
        · obtain ⟨i, rfl⟩ : ∃ i, c = code + i := ⟨c - code, by omega⟩
          rw [w1 i (by omega), hblk i (by omega)]) hnb
      refine ⟨W', fun L => ?_, hRF.tr i2, i3⟩
      have hU2 : U 0 2 = nI nv := by rw [u3.1 2 (by omega)]; exact hV.1
      have hlk := like_loop (L := L) hnv1 hnv he u2 hU2 (k28 := f_X5_layGame_28 (nI a) (nI b) (nI (nv ^ 7)) g) (x1 := nI a) (x2 := nI b) (x3 := nI (nv ^ 7)) (x4 := nI code) (x5 := nI (pl n T B Y G nv bt a b 7 st code).1) (pl n T B Y G nv bt a b 7 st code).2 20000 0 (by omega) (by omega)
      have hw4 := w4 L
      rw [nI_0] at hlk hw4
      rw [f_X5_layGame_28, if_neg (nI_ge hclt (by omega)), u1 L, bd3_s]
      exact hlk.trans (hw4.trans (i1 L))
theorem lay5 (hnv1 : 1 ≤ nv) (hnv : nv ≤ 3) {V : Nat → Nat → Int32} {L : Nat → Int64} (h2 : V 0 2 = nI nv) {x1 x2 : Int32} :
    ∀ (m fuel k : Nat), k + m = 7 → m < fuel → f_X5_layGame_5 V L x1 x2 fuel (nI (nv ^ k)) (nI k) = f_X5_layGame_28 x1 x2 (nI (nv ^ 7)) 20000 V L 0 := by
  intro m
  induction m with
  | zero =>
    intro fuel k hk hf
    obtain ⟨g, rfl⟩ : ∃ g, fuel = g + 1 := ⟨fuel - 1, by omega⟩
    rw [f_X5_layGame_5, if_pos (show (7 : Int32) ≤ nI k from nI_le (a := 7) (by omega) (by omega)), show k = 7 by omega]
  | succ m ih =>
    intro fuel k hk hf
    obtain ⟨g, rfl⟩ : ∃ g, fuel = g + 1 := ⟨fuel - 1, by omega⟩
    rw [f_X5_layGame_5, if_neg (show ¬ (7 : Int32) ≤ nI k from nI_ge (b := 7) (by omega) (by decide)), h2, pk_mul, ← Nat.pow_succ, nI_1]
    exact ih g (k + 1) (by omega) (by omega)
theorem lay_eq (hn : n ≤ 8) (hB : KB n K T B Y G) (ha : a < n) (hb : b < n) (hnv1 : 1 ≤ nv) (hnv : nv ≤ 3) (hbt : ∀ v, v < nv → 1 ≤ bt v ∧ bt v ≤ 99) (hs : Sok n st) {V : Nat → Nat → Int32} (hA : A2 V n K st) (hV : Vs V nv bt) :
    ∃ W, (∀ L, f_X5_layGame V L (nI a) (nI b) = some (nI (nv ^ 7), W, L)) ∧ RF V W ∧ ∀ c, c < nv ^ 7 → W 22 c = nI (pl n T B Y G nv bt a b 7 st c).1 := by
  have hpw := pow3 nv hnv 7 (by omega)
  obtain ⟨W, w1, w2, w3⟩ := lay_loop hn hB ha hb hnv1 hnv hbt hs (nv ^ 7) 0 20000 V (by omega) (by omega) (by omega) hA hV (fun c hc => by omega) (Nat.dvd_zero _)
  refine ⟨W, fun L => ?_, w2, w3⟩
  have h5 := lay5 (L := L) hnv1 hnv hV.1 (x1 := nI a) (x2 := nI b) 7 20000 0 (by omega) (by omega)
  have hw1 := w1 L
  rw [nI_0] at h5 hw1
  unfold f_X5_layGame
  exact h5.trans hw1
end
