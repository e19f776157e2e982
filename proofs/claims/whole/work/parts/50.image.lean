theorem img3 : ∀ (m fuel j : Nat) (V : Nat → Nat → Int32), j + m = 6 → m < fuel → (∀ i, i < j → V 47 i = V 11 i ∧ V 48 i = V 12 i) → ∃ W, (∀ i, i < 6 → W 47 i = V 11 i ∧ W 48 i = V 12 i) ∧ (∀ a, a ≠ 47 → a ≠ 48 → W a = V a) ∧ ∀ L, f_X5_image_124 fuel V L (nI j) = some (W 0 9, W, L) := by
  intro m
  induction m with
  | zero =>
    intro fuel j V hj hf h
    obtain ⟨g, rfl⟩ : ∃ g, fuel = g + 1 := ⟨fuel - 1, by omega⟩
    refine ⟨V, fun i hi => h i (by omega), fun _ _ _ => rfl, fun L => ?_⟩
    rw [f_X5_image_124, if_pos (show (6 : Int32) ≤ nI j from nI_le (a := 6) (by omega) (by omega))]
  | succ m ih =>
    intro fuel j V hj hf h
    obtain ⟨g, rfl⟩ : ∃ g, fuel = g + 1 := ⟨fuel - 1, by omega⟩
    obtain ⟨W, w1, w2, w3⟩ := ih g (j + 1) (up2 (up2 V 47 j (V 11 j)) 48 j (V 12 j)) (by omega) (by omega) (fun i hi => by
      show upd (V 47) j (V 11 j) i = V 11 i ∧ upd (V 48) j (V 12 j) i = V 12 i
      by_cases e : i = j
      · rw [e, pk_us, pk_us]
        exact ⟨rfl, rfl⟩
      · rw [pk_un e, pk_un e]
        exact h i (by omega))
    refine ⟨W, fun i hi => w1 i hi, fun a ha hb => (w2 a ha hb).trans ((setc_ne _ _ hb).trans (setc_ne V _ ha)), fun L => ?_⟩
    rw [f_X5_image_124, if_neg (show ¬ (6 : Int32) ≤ nI j from nI_ge (b := 6) (by omega) (by decide)), if_pos (ib_nI (show j < 6 by omega) (by decide)), if_pos (ib_nI (show j < 6 by omega) (by decide)), nI_clamp (by omega)]
    simp only [bnd]
    rw [if_pos (ib_nI (show j < 6 by omega) (by decide)), if_pos (ib_nI (show j < 6 by omega) (by decide)), nI_1]
    exact w3 L
theorem img2 : ∀ (m fuel j : Nat) (V : Nat → Nat → Int32), j + m = 3 → m < fuel → (∀ i, i < j → V 46 i = V 3 i) → ∃ W, (∀ i, i < 3 → W 46 i = V 3 i) ∧ (∀ a, a ≠ 46 → W a = V a) ∧ ∀ L, f_X5_image_99 fuel V L (nI j) = f_X5_image_124 20000 W L 0 := by
  intro m
  induction m with
  | zero =>
    intro fuel j V hj hf h
    obtain ⟨g, rfl⟩ : ∃ g, fuel = g + 1 := ⟨fuel - 1, by omega⟩
    refine ⟨V, fun i hi => h i (by omega), fun _ _ => rfl, fun L => ?_⟩
    rw [f_X5_image_99, if_pos (show (3 : Int32) ≤ nI j from nI_le (a := 3) (by omega) (by omega))]
  | succ m ih =>
    intro fuel j V hj hf h
    obtain ⟨g, rfl⟩ : ∃ g, fuel = g + 1 := ⟨fuel - 1, by omega⟩
    obtain ⟨W, w1, w2, w3⟩ := ih g (j + 1) (up2 V 46 j (V 3 j)) (by omega) (by omega) (fun i hi => by
      rw [up2_at, if_pos rfl]
      show _ = V 3 i
      by_cases e : i = j
      · rw [if_pos e, e]
      · rw [if_neg e]
        exact h i (by omega))
    refine ⟨W, fun i hi => w1 i hi, fun a ha => (w2 a ha).trans (setc_ne V _ ha), fun L => ?_⟩
    rw [f_X5_image_99, if_neg (show ¬ (3 : Int32) ≤ nI j from nI_ge (b := 3) (by omega) (by decide)), if_pos (ib_nI (show j < 3 by omega) (by decide)), if_pos (ib_nI (show j < 3 by omega) (by decide)), nI_clamp (by omega), nI_1]
    exact w3 L
theorem img1 : ∀ (m fuel j : Nat) (V : Nat → Nat → Int32), j + m = 8 → m < fuel → (∀ i, i < j → V 45 i = V 4 i) → ∃ W, (∀ i, i < 8 → W 45 i = V 4 i) ∧ (∀ a, a ≠ 45 → W a = V a) ∧ ∀ L, f_X5_image_73 fuel V L (nI j) = f_X5_image_99 20000 W L 0 := by
  intro m
  induction m with
  | zero =>
    intro fuel j V hj hf h
    obtain ⟨g, rfl⟩ : ∃ g, fuel = g + 1 := ⟨fuel - 1, by omega⟩
    refine ⟨V, fun i hi => h i (by omega), fun _ _ => rfl, fun L => ?_⟩
    rw [f_X5_image_73, if_pos (show (8 : Int32) ≤ nI j from nI_le (a := 8) (by omega) (by omega))]
  | succ m ih =>
    intro fuel j V hj hf h
    obtain ⟨g, rfl⟩ : ∃ g, fuel = g + 1 := ⟨fuel - 1, by omega⟩
    obtain ⟨W, w1, w2, w3⟩ := ih g (j + 1) (up2 V 45 j (V 4 j)) (by omega) (by omega) (fun i hi => by
      rw [up2_at, if_pos rfl]
      show _ = V 4 i
      by_cases e : i = j
      · rw [if_pos e, e]
      · rw [if_neg e]
        exact h i (by omega))
    refine ⟨W, fun i hi => w1 i hi, fun a ha => (w2 a ha).trans (setc_ne V _ ha), fun L => ?_⟩
    rw [f_X5_image_73, if_neg (show ¬ (8 : Int32) ≤ nI j from nI_ge (b := 8) (by omega) (by decide)), if_pos (ib_nI (show j < 9 by omega) (by decide)), if_pos (ib_nI (show j < 8 by omega) (by decide)), nI_clamp (by omega), nI_1]
    exact w3 L
theorem res3 : ∀ (m fuel j : Nat) (V : Nat → Nat → Int32), j + m = 6 → m < fuel → (∀ i, i < j → V 11 i = V 47 i ∧ V 12 i = V 48 i) → ∃ W, (∀ i, i < 6 → W 11 i = V 47 i ∧ W 12 i = V 48 i) ∧ (∀ a, a ≠ 11 → a ≠ 12 → W a = V a) ∧ ∀ L, f_X5_restore_122 fuel V L (nI j) = some (W 0 9, W, L) := by
  intro m
  induction m with
  | zero =>
    intro fuel j V hj hf h
    obtain ⟨g, rfl⟩ : ∃ g, fuel = g + 1 := ⟨fuel - 1, by omega⟩
    refine ⟨V, fun i hi => h i (by omega), fun _ _ _ => rfl, fun L => ?_⟩
    rw [f_X5_restore_122, if_pos (show (6 : Int32) ≤ nI j from nI_le (a := 6) (by omega) (by omega))]
  | succ m ih =>
    intro fuel j V hj hf h
    obtain ⟨g, rfl⟩ : ∃ g, fuel = g + 1 := ⟨fuel - 1, by omega⟩
    obtain ⟨W, w1, w2, w3⟩ := ih g (j + 1) (up2 (up2 V 11 j (V 47 j)) 12 j (V 48 j)) (by omega) (by omega) (fun i hi => by
      show upd (V 11) j (V 47 j) i = V 47 i ∧ upd (V 12) j (V 48 j) i = V 48 i
      by_cases e : i = j
      · rw [e, pk_us, pk_us]
        exact ⟨rfl, rfl⟩
      · rw [pk_un e, pk_un e]
        exact h i (by omega))
    refine ⟨W, fun i hi => w1 i hi, fun a ha hb => (w2 a ha hb).trans ((setc_ne _ _ hb).trans (setc_ne V _ ha)), fun L => ?_⟩
    rw [f_X5_restore_122, if_neg (show ¬ (6 : Int32) ≤ nI j from nI_ge (b := 6) (by omega) (by decide)), if_pos (ib_nI (show j < 6 by omega) (by decide)), if_pos (ib_nI (show j < 6 by omega) (by decide)), nI_clamp (by omega)]
    simp only [bnd]
    rw [if_pos (ib_nI (show j < 6 by omega) (by decide)), if_pos (ib_nI (show j < 6 by omega) (by decide)), nI_1]
    exact w3 L
theorem res2 : ∀ (m fuel j : Nat) (V : Nat → Nat → Int32), j + m = 3 → m < fuel → (∀ i, i < j → V 3 i = V 46 i) → ∃ W, (∀ i, i < 3 → W 3 i = V 46 i) ∧ (∀ a, a ≠ 3 → W a = V a) ∧ ∀ L, f_X5_restore_97 fuel V L (nI j) = f_X5_restore_122 20000 W L 0 := by
  intro m
  induction m with
  | zero =>
    intro fuel j V hj hf h
    obtain ⟨g, rfl⟩ : ∃ g, fuel = g + 1 := ⟨fuel - 1, by omega⟩
    refine ⟨V, fun i hi => h i (by omega), fun _ _ => rfl, fun L => ?_⟩
    rw [f_X5_restore_97, if_pos (show (3 : Int32) ≤ nI j from nI_le (a := 3) (by omega) (by omega))]
  | succ m ih =>
    intro fuel j V hj hf h
    obtain ⟨g, rfl⟩ : ∃ g, fuel = g + 1 := ⟨fuel - 1, by omega⟩
    obtain ⟨W, w1, w2, w3⟩ := ih g (j + 1) (up2 V 3 j (V 46 j)) (by omega) (by omega) (fun i hi => by
      rw [up2_at, if_pos rfl]
      show _ = V 46 i
      by_cases e : i = j
      · rw [if_pos e, e]
      · rw [if_neg e]
        exact h i (by omega))
    refine ⟨W, fun i hi => w1 i hi, fun a ha => (w2 a ha).trans (setc_ne V _ ha), fun L => ?_⟩
    rw [f_X5_restore_97, if_neg (show ¬ (3 : Int32) ≤ nI j from nI_ge (b := 3) (by omega) (by decide)), if_pos (ib_nI (show j < 3 by omega) (by decide)), if_pos (ib_nI (show j < 3 by omega) (by decide)), nI_clamp (by omega), nI_1]
    exact w3 L
theorem res1 : ∀ (m fuel j : Nat) (V : Nat → Nat → Int32), j + m = 8 → m < fuel → (∀ i, i < j → V 4 i = V 45 i) → ∃ W, (∀ i, i < 8 → W 4 i = V 45 i) ∧ (∀ a, a ≠ 4 → W a = V a) ∧ ∀ L, f_X5_restore_71 fuel V L (nI j) = f_X5_restore_97 20000 W L 0 := by
  intro m
  induction m with
  | zero =>
    intro fuel j V hj hf h
    obtain ⟨g, rfl⟩ : ∃ g, fuel = g + 1 := ⟨fuel - 1, by omega⟩
    refine ⟨V, fun i hi => h i (by omega), fun _ _ => rfl, fun L => ?_⟩
    rw [f_X5_restore_71, if_pos (show (8 : Int32) ≤ nI j from nI_le (a := 8) (by omega) (by omega))]
  | succ m ih =>
    intro fuel j V hj hf h
    obtain ⟨g, rfl⟩ : ∃ g, fuel = g + 1 := ⟨fuel - 1, by omega⟩
    obtain ⟨W, w1, w2, w3⟩ := ih g (j + 1) (up2 V 4 j (V 45 j)) (by omega) (by omega) (fun i hi => by
      rw [up2_at, if_pos rfl]
      show _ = V 45 i
      by_cases e : i = j
      · rw [if_pos e, e]
      · rw [if_neg e]
        exact h i (by omega))
    refine ⟨W, fun i hi => w1 i hi, fun a ha => (w2 a ha).trans (setc_ne V _ ha), fun L => ?_⟩
    rw [f_X5_restore_71, if_neg (show ¬ (8 : Int32) ≤ nI j from nI_ge (b := 8) (by omega) (by decide)), if_pos (ib_nI (show j < 8 by omega) (by decide)), if_pos (ib_nI (show j < 9 by omega) (by decide)), nI_clamp (by omega), nI_1]
    exact w3 L
theorem img_all (V : Nat → Nat → Int32) : ∃ W, (∀ i, i < 8 → W 45 i = V 4 i) ∧ (∀ i, i < 3 → W 46 i = V 3 i) ∧ (∀ i, i < 6 → W 47 i = V 11 i ∧ W 48 i = V 12 i) ∧ (∀ a, a ≠ 45 → a ≠ 46 → a ≠ 47 → a ≠ 48 → W a = V a) ∧ ∀ L, f_X5_image_73 20000 V L 0 = some (V 0 9, W, L) := by
  obtain ⟨W1, p1, p2, p3⟩ := img1 8 20000 0 V (by omega) (by omega) (fun i hi => by omega)
  obtain ⟨W2, q1, q2, q3⟩ := img2 3 20000 0 W1 (by omega) (by omega) (fun i hi => by omega)
  obtain ⟨W3, r1, r2, r3⟩ := img3 6 20000 0 W2 (by omega) (by omega) (fun i hi => by omega)
  refine ⟨W3, fun i hi => ?_, fun i hi => ?_, fun i hi => ?_, fun a h1 h2 h3 h4 => ?_, fun L => ?_⟩
  · rw [r2 45 (by decide) (by decide), q2 45 (by decide)]; exact p1 i hi
  · rw [r2 46 (by decide) (by decide), q1 i hi, p2 3 (by decide)]
  · rw [(r1 i hi).1, (r1 i hi).2, q2 11 (by decide), q2 12 (by decide), p2 11 (by decide), p2 12 (by decide)]; exact ⟨rfl, rfl⟩
  · rw [r2 a h3 h4, q2 a h2, p2 a h1]
  · have e : W3 0 9 = V 0 9 := by rw [r2 0 (by decide) (by decide), q2 0 (by decide), p2 0 (by decide)]
    have p3' := p3 L
    have q3' := q3 L
    have r3' := r3 L
    rw [nI_0] at p3' q3' r3'
    rw [p3', q3', r3', e]
theorem res_all (V : Nat → Nat → Int32) : ∃ W, (∀ i, i < 8 → W 4 i = V 45 i) ∧ (∀ i, i < 3 → W 3 i = V 46 i) ∧ (∀ i, i < 6 → W 11 i = V 47 i ∧ W 12 i = V 48 i) ∧ (∀ a, a ≠ 4 → a ≠ 3 → a ≠ 11 → a ≠ 12 → W a = V a) ∧ ∀ L, f_X5_restore_71 20000 V L 0 = some (V 0 9, W, L) := by
  obtain ⟨W1, p1, p2, p3⟩ := res1 8 20000 0 V (by omega) (by omega) (fun i hi => by omega)
  obtain ⟨W2, q1, q2, q3⟩ := res2 3 20000 0 W1 (by omega) (by omega) (fun i hi => by omega)
  obtain ⟨W3, r1, r2, r3⟩ := res3 6 20000 0 W2 (by omega) (by omega) (fun i hi => by omega)
  refine ⟨W3, fun i hi => ?_, fun i hi => ?_, fun i hi => ?_, fun a h1 h2 h3 h4 => ?_, fun L => ?_⟩
  · rw [r2 4 (by decide) (by decide), q2 4 (by decide)]; exact p1 i hi
  · rw [r2 3 (by decide) (by decide), q1 i hi, p2 46 (by decide)]
  · rw [(r1 i hi).1, (r1 i hi).2, q2 47 (by decide), q2 48 (by decide), p2 47 (by decide), p2 48 (by decide)]; exact ⟨rfl, rfl⟩
  · rw [r2 a h3 h4, q2 a h2, p2 a h1]
  · have e : W3 0 9 = V 0 9 := by rw [r2 0 (by decide) (by decide), q2 0 (by decide), p2 0 (by decide)]
    have p3' := p3 L
    have q3' := q3 L
    have r3' := r3 L
    rw [nI_0] at p3' q3' r3'
    rw [p3', q3', r3', e]
theorem z_cl : (0 : Int32).toNatClampNeg = 0 := by decide
theorem z_cl3 : (3 : Int32).toNatClampNeg = 3 := by decide
theorem z_cl6 : (6 : Int32).toNatClampNeg = 6 := by decide
theorem cpy0 {f g : Nat → Int32} {n i : Nat} (h : i < n) : va_cpy f g 0 0 n i = f i := by
  rw [pk_cpy_in (by omega) (by omega)]
  congr 1
  omega
theorem bnd_e {α β : Type} (x : α) (k : α → β) : bnd x k = k x := rfl
theorem st_ex (V : Nat → Nat → Int32) (j : Nat) (c : Nat → Int32) : ∃ W, setc V j c = W ∧ W j = c ∧ ∀ a, a ≠ j → W a = V a := ⟨_, rfl, setc_at V j c, fun _ h => setc_ne V c h⟩
theorem up_ex (V : Nat → Nat → Int32) (j k : Nat) (x : Int32) : ∃ W, up2 V j k x = W ∧ W j k = x ∧ (∀ b, b ≠ k → W j b = V j b) ∧ ∀ a, a ≠ j → W a = V a := by
  refine ⟨_, rfl, ?_, fun b hb => ?_, fun a ha => ?_⟩
  · rw [up2_at, if_pos rfl, if_pos rfl]
  · rw [up2_at, if_pos rfl, if_neg hb]
  · exact setc_ne V _ ha
theorem img_pre (V : Nat → Nat → Int32) (L : Nat → Int64) (hz : isz (V 0 8) = true) : ∃ W, (bnd (up2 V 0 37 (1 : Int32)) fun V_1 => bnd (up2 V_1 0 38 (V_1 0 0)) fun V_2 => bnd (up2 V_2 0 39 (V_2 0 5)) fun V_3 => bnd (up2 V_3 0 40 (V_3 0 6)) fun V_4 => bnd (up2 V_4 0 41 (V_4 0 7)) fun V_5 => if isz (V_5 0 8) = true then bnd (up2 V_5 0 42 (V_5 0 8)) fun V_6 => bnd (up2 V_6 0 43 (V_6 0 9)) fun V_7 => bnd (up2 V_7 0 44 (V_7 0 10)) fun V_8 => f_X5_image_73 20000 V_8 L (0 : Int32) else none) = f_X5_image_73 20000 W L 0 ∧ W 0 37 = 1 ∧ W 0 38 = V 0 0 ∧ W 0 39 = V 0 5 ∧ W 0 40 = V 0 6 ∧ W 0 41 = V 0 7 ∧ W 0 42 = V 0 8 ∧ W 0 43 = V 0 9 ∧ W 0 44 = V 0 10 ∧ (∀ b, b ≠ 37 → b ≠ 38 → b ≠ 39 → b ≠ 40 → b ≠ 41 → b ≠ 42 → b ≠ 43 → b ≠ 44 → W 0 b = V 0 b) ∧ ∀ a, a ≠ 0 → W a = V a := by
  obtain ⟨W0, e0, a0, b0, c0⟩ := up_ex V 0 37 1
  rw [e0, bnd_e]
  rw [b0 0 (by decide)]
  obtain ⟨W1, e1, a1, b1, c1⟩ := up_ex W0 0 38 (V 0 0)
  rw [e1, bnd_e]
  rw [b1 5 (by decide), b0 5 (by decide)]
  obtain ⟨W2, e2, a2, b2, c2⟩ := up_ex W1 0 39 (V 0 5)
  rw [e2, bnd_e]
  rw [b2 6 (by decide), b1 6 (by decide), b0 6 (by decide)]
  obtain ⟨W3, e3, a3, b3, c3⟩ := up_ex W2 0 40 (V 0 6)
  rw [e3, bnd_e]
  rw [b3 7 (by decide), b2 7 (by decide), b1 7 (by decide), b0 7 (by decide)]
  obtain ⟨W4, e4, a4, b4, c4⟩ := up_ex W3 0 41 (V 0 7)
  rw [e4, bnd_e]
  rw [b4 8 (by decide), b3 8 (by decide), b2 8 (by decide), b1 8 (by decide), b0 8 (by decide), if_pos hz]
  obtain ⟨W5, e5, a5, b5, c5⟩ := up_ex W4 0 42 (V 0 8)
  rw [e5, bnd_e]
  rw [b5 9 (by decide), b4 9 (by decide), b3 9 (by decide), b2 9 (by decide), b1 9 (by decide), b0 9 (by decide)]
  obtain ⟨W6, e6, a6, b6, c6⟩ := up_ex W5 0 43 (V 0 9)
  rw [e6, bnd_e]
  rw [b6 10 (by decide), b5 10 (by decide), b4 10 (by decide), b3 10 (by decide), b2 10 (by decide), b1 10 (by decide), b0 10 (by decide)]
  obtain ⟨W7, e7, a7, b7, c7⟩ := up_ex W6 0 44 (V 0 10)
  rw [e7, bnd_e]
  refine ⟨W7, rfl, ?_, ?_, ?_, ?_, ?_, ?_, ?_, ?_, fun b h0 h1 h2 h3 h4 h5 h6 h7 => ?_, fun a ha => ?_⟩
  · rw [b7 37 (by decide), b6 37 (by decide), b5 37 (by decide), b4 37 (by decide), b3 37 (by decide), b2 37 (by decide), b1 37 (by decide), a0]
  · rw [b7 38 (by decide), b6 38 (by decide), b5 38 (by decide), b4 38 (by decide), b3 38 (by decide), b2 38 (by decide), a1]
  · rw [b7 39 (by decide), b6 39 (by decide), b5 39 (by decide), b4 39 (by decide), b3 39 (by decide), a2]
  · rw [b7 40 (by decide), b6 40 (by decide), b5 40 (by decide), b4 40 (by decide), a3]
  · rw [b7 41 (by decide), b6 41 (by decide), b5 41 (by decide), a4]
  · rw [b7 42 (by decide), b6 42 (by decide), a5]
  · rw [b7 43 (by decide), a6]
  · rw [a7]
  · rw [b7 b h7, b6 b h6, b5 b h5, b4 b h4, b3 b h3, b2 b h2, b1 b h1, b0 b h0]
  · rw [c7 a ha, c6 a ha, c5 a ha, c4 a ha, c3 a ha, c2 a ha, c1 a ha, c0 a ha]
theorem res_pre (V : Nat → Nat → Int32) (L : Nat → Int64) (hz : isz (V 0 42) = true) : ∃ W, (bnd (up2 V 0 5 (V 0 39)) fun V_1 => bnd (up2 V_1 0 6 (V_1 0 40)) fun V_2 => bnd (up2 V_2 0 7 (V_2 0 41)) fun V_3 => if isz (V_3 0 42) = true then bnd (up2 V_3 0 8 (V_3 0 42)) fun V_4 => bnd (up2 V_4 0 9 (V_4 0 43)) fun V_5 => bnd (up2 V_5 0 10 (V_5 0 44)) fun V_6 => f_X5_restore_71 20000 V_6 L (0 : Int32) else none) = f_X5_restore_71 20000 W L 0 ∧ W 0 5 = V 0 39 ∧ W 0 6 = V 0 40 ∧ W 0 7 = V 0 41 ∧ W 0 8 = V 0 42 ∧ W 0 9 = V 0 43 ∧ W 0 10 = V 0 44 ∧ (∀ b, b ≠ 5 → b ≠ 6 → b ≠ 7 → b ≠ 8 → b ≠ 9 → b ≠ 10 → W 0 b = V 0 b) ∧ ∀ a, a ≠ 0 → W a = V a := by
  obtain ⟨W0, e0, a0, b0, c0⟩ := up_ex V 0 5 (V 0 39)
  rw [e0, bnd_e]
  rw [b0 40 (by decide)]
  obtain ⟨W1, e1, a1, b1, c1⟩ := up_ex W0 0 6 (V 0 40)
  rw [e1, bnd_e]
  rw [b1 41 (by decide), b0 41 (by decide)]
  obtain ⟨W2, e2, a2, b2, c2⟩ := up_ex W1 0 7 (V 0 41)
  rw [e2, bnd_e]
  rw [b2 42 (by decide), b1 42 (by decide), b0 42 (by decide), if_pos hz]
  obtain ⟨W3, e3, a3, b3, c3⟩ := up_ex W2 0 8 (V 0 42)
  rw [e3, bnd_e]
  rw [b3 43 (by decide), b2 43 (by decide), b1 43 (by decide), b0 43 (by decide)]
  obtain ⟨W4, e4, a4, b4, c4⟩ := up_ex W3 0 9 (V 0 43)
  rw [e4, bnd_e]
  rw [b4 44 (by decide), b3 44 (by decide), b2 44 (by decide), b1 44 (by decide), b0 44 (by decide)]
  obtain ⟨W5, e5, a5, b5, c5⟩ := up_ex W4 0 10 (V 0 44)
  rw [e5, bnd_e]
  refine ⟨W5, rfl, ?_, ?_, ?_, ?_, ?_, ?_, fun b h0 h1 h2 h3 h4 h5 => ?_, fun a ha => ?_⟩
  · rw [b5 5 (by decide), b4 5 (by decide), b3 5 (by decide), b2 5 (by decide), b1 5 (by decide), a0]
  · rw [b5 6 (by decide), b4 6 (by decide), b3 6 (by decide), b2 6 (by decide), a1]
  · rw [b5 7 (by decide), b4 7 (by decide), b3 7 (by decide), a2]
  · rw [b5 8 (by decide), b4 8 (by decide), a3]
  · rw [b5 9 (by decide), a4]
  · rw [a5]
  · rw [b5 b h5, b4 b h4, b3 b h3, b2 b h2, b1 b h1, b0 b h0]
  · rw [c5 a ha, c4 a ha, c3 a ha, c2 a ha, c1 a ha, c0 a ha]
theorem take_i {V : Nat → Nat → Int32} {L : Nat → Int64} {n T B Y G : Nat} {st : Nat × Nat × Nat × Bool} (h : CiS (V 6) n T B Y G st) : ∃ W, f_X3_takeAll_10_5 V L = some (W, L) ∧ CiS (W 11) n T B Y G st ∧ (W 10 2 = V 5 2 ∧ W 10 3 = V 5 3 ∧ W 10 6 = V 5 6) ∧ (∀ i, i < 3 → W 12 i = V 7 i) ∧ (∀ i, i < 6 → W 13 i = V 8 i ∧ W 14 i = V 9 i) ∧ ∀ a, a ≠ 10 → a ≠ 11 → a ≠ 12 → a ≠ 13 → a ≠ 14 → W a = V a := by
  obtain ⟨cc, t1, t2⟩ := takeAll_eq (c := V 11) h
  unfold f_X3_takeAll_10_5
  rw [t1, z_cl, z_cl3, z_cl6]
  simp only [bd1]
  obtain ⟨W0, e0, a0, c0⟩ := st_ex V 11 cc
  rw [e0, bnd_e]
  rw [c0 5 (by decide)]
  obtain ⟨W1, e1, a1, b1, c1⟩ := up_ex W0 10 2 (V 5 2)
  rw [e1, bnd_e]
  rw [c1 7 (by decide), c0 7 (by decide), c1 12 (by decide), c0 12 (by decide)]
  obtain ⟨W2, e2, a2, c2⟩ := st_ex W1 12 (va_cpy (V 7) (V 12) 0 0 3)
  rw [e2, bnd_e]
  rw [c2 5 (by decide), c1 5 (by decide), c0 5 (by decide)]
  obtain ⟨W3, e3, a3, b3, c3⟩ := up_ex W2 10 3 (V 5 3)
  rw [e3, bnd_e]
  rw [c3 5 (by decide), c2 5 (by decide), c1 5 (by decide), c0 5 (by decide)]
  obtain ⟨W4, e4, a4, b4, c4⟩ := up_ex W3 10 6 (V 5 6)
  rw [e4, bnd_e]
  rw [c4 8 (by decide), c3 8 (by decide), c2 8 (by decide), c1 8 (by decide), c0 8 (by decide), c4 13 (by decide), c3 13 (by decide), c2 13 (by decide), c1 13 (by decide), c0 13 (by decide)]
  obtain ⟨W5, e5, a5, c5⟩ := st_ex W4 13 (va_cpy (V 8) (V 13) 0 0 6)
  rw [e5, bnd_e]
  rw [c5 9 (by decide), c4 9 (by decide), c3 9 (by decide), c2 9 (by decide), c1 9 (by decide), c0 9 (by decide), c5 14 (by decide), c4 14 (by decide), c3 14 (by decide), c2 14 (by decide), c1 14 (by decide), c0 14 (by decide)]
  obtain ⟨W6, e6, a6, c6⟩ := st_ex W5 14 (va_cpy (V 9) (V 14) 0 0 6)
  rw [e6, bnd_e]
  refine ⟨W6, rfl, ?_, ⟨?_, ?_, ?_⟩, fun i hi => ?_, fun i hi => ⟨?_, ?_⟩, fun a h10 h11 h12 h13 h14 => ?_⟩
  · rw [c6 11 (by decide), c5 11 (by decide), c4 11 (by decide), c3 11 (by decide), c2 11 (by decide), c1 11 (by decide), a0]
    exact t2
  · rw [c6 10 (by decide), c5 10 (by decide), b4 2 (by decide), b3 2 (by decide), c2 10 (by decide), a1]
  · rw [c6 10 (by decide), c5 10 (by decide), b4 3 (by decide), a3]
  · rw [c6 10 (by decide), c5 10 (by decide), a4]
  · rw [c6 12 (by decide), c5 12 (by decide), c4 12 (by decide), c3 12 (by decide), a2, cpy0 hi]
  · rw [c6 13 (by decide), a5, cpy0 hi]
  · rw [a6, cpy0 hi]
  · rw [c6 a h14, c5 a h13, c4 a h10, c3 a h10, c2 a h12, c1 a h10, c0 a h11]
theorem take_r {V : Nat → Nat → Int32} {L : Nat → Int64} {n T B Y G : Nat} {st : Nat × Nat × Nat × Bool} (h : CiS (V 11) n T B Y G st) : ∃ W, f_X3_takeAll_5_10 V L = some (W, L) ∧ CiS (W 6) n T B Y G st ∧ (W 5 2 = V 10 2 ∧ W 5 3 = V 10 3 ∧ W 5 6 = V 10 6) ∧ (∀ i, i < 3 → W 7 i = V 12 i) ∧ (∀ i, i < 6 → W 8 i = V 13 i ∧ W 9 i = V 14 i) ∧ ∀ a, a ≠ 5 → a ≠ 6 → a ≠ 7 → a ≠ 8 → a ≠ 9 → W a = V a := by
  obtain ⟨cc, t1, t2⟩ := takeAll_eq (c := V 6) h
  unfold f_X3_takeAll_5_10
  rw [t1, z_cl, z_cl3, z_cl6]
  simp only [bd1]
  obtain ⟨W0, e0, a0, c0⟩ := st_ex V 6 cc
  rw [e0, bnd_e]
  rw [c0 10 (by decide)]
  obtain ⟨W1, e1, a1, b1, c1⟩ := up_ex W0 5 2 (V 10 2)
  rw [e1, bnd_e]
  rw [c1 12 (by decide), c0 12 (by decide), c1 7 (by decide), c0 7 (by decide)]
  obtain ⟨W2, e2, a2, c2⟩ := st_ex W1 7 (va_cpy (V 12) (V 7) 0 0 3)
  rw [e2, bnd_e]
  rw [c2 10 (by decide), c1 10 (by decide), c0 10 (by decide)]
  obtain ⟨W3, e3, a3, b3, c3⟩ := up_ex W2 5 3 (V 10 3)
  rw [e3, bnd_e]
  rw [c3 10 (by decide), c2 10 (by decide), c1 10 (by decide), c0 10 (by decide)]
  obtain ⟨W4, e4, a4, b4, c4⟩ := up_ex W3 5 6 (V 10 6)
  rw [e4, bnd_e]
  rw [c4 13 (by decide), c3 13 (by decide), c2 13 (by decide), c1 13 (by decide), c0 13 (by decide), c4 8 (by decide), c3 8 (by decide), c2 8 (by decide), c1 8 (by decide), c0 8 (by decide)]
  obtain ⟨W5, e5, a5, c5⟩ := st_ex W4 8 (va_cpy (V 13) (V 8) 0 0 6)
  rw [e5, bnd_e]
  rw [c5 14 (by decide), c4 14 (by decide), c3 14 (by decide), c2 14 (by decide), c1 14 (by decide), c0 14 (by decide), c5 9 (by decide), c4 9 (by decide), c3 9 (by decide), c2 9 (by decide), c1 9 (by decide), c0 9 (by decide)]
  obtain ⟨W6, e6, a6, c6⟩ := st_ex W5 9 (va_cpy (V 14) (V 9) 0 0 6)
  rw [e6, bnd_e]
  refine ⟨W6, rfl, ?_, ⟨?_, ?_, ?_⟩, fun i hi => ?_, fun i hi => ⟨?_, ?_⟩, fun a h5 h6 h7 h8 h9 => ?_⟩
  · rw [c6 6 (by decide), c5 6 (by decide), c4 6 (by decide), c3 6 (by decide), c2 6 (by decide), c1 6 (by decide), a0]
    exact t2
  · rw [c6 5 (by decide), c5 5 (by decide), b4 2 (by decide), b3 2 (by decide), c2 5 (by decide), a1]
  · rw [c6 5 (by decide), c5 5 (by decide), b4 3 (by decide), a3]
  · rw [c6 5 (by decide), c5 5 (by decide), a4]
  · rw [c6 7 (by decide), c5 7 (by decide), c4 7 (by decide), c3 7 (by decide), a2, cpy0 hi]
  · rw [c6 8 (by decide), a5, cpy0 hi]
  · rw [a6, cpy0 hi]
  · rw [c6 a h9, c5 a h8, c4 a h5, c3 a h5, c2 a h7, c1 a h5, c0 a h6]
theorem sim_image : Sim_image Rel := by
  rintro N V L V2 L2 hN ⟨s, q, ρ, n, K, T, B, Y, G, st, nv, bt, ct, sn, sf, so, h⟩
  obtain ⟨h1, h2, h3, h4, h5, h6, h7, h8, h9⟩ := h.mono
  have hn := h7.le
  unfold f_X4_image f_X5_image
  rw [hasRing_eq h3.1.1 (by omega), h3.2.2.1.1]
  by_cases h0 : 0 < n
  · rw [decide_eq_true h0, if_neg (show ¬ bz true = 0 by decide), if_neg (nI_ne0 h0 (by omega))]
    obtain ⟨a1, a2, a3⟩ := h7.ok h0
    obtain ⟨U, hU, g37, g38, g39, g40, g41, g42, g43, g44, gb, gc⟩ := img_pre V2 L2 (by rw [h3.2.1.2.2.2]; exact bz_isz _)
    obtain ⟨W, w1, w2, w3, w4, w5⟩ := img_all U
    obtain ⟨Q, hQ, q1, ⟨q2, q3, q4⟩, q5, q6, q7⟩ := take_i (L := L) h3.1
    have hw0 : W 0 = U 0 := w4 0 (by decide) (by decide) (by decide) (by decide)
    have f0 : ∀ b, b < 37 → W 0 b = V2 0 b := fun b hb => by rw [hw0]; exact gb b (by omega) (by omega) (by omega) (by omega) (by omega) (by omega) (by omega) (by omega)
    have fa : ∀ a, a ≠ 0 → a < 45 → W a = V2 a := fun a ha hb => by rw [w4 a (by omega) (by omega) (by omega) (by omega)]; exact gc a ha
    have hQa : ∀ a, a < 10 ∨ 14 < a → Q a = V a := fun a ha => q7 a (by omega) (by omega) (by omega) (by omega) (by omega)
    obtain ⟨e1, e2, e3, e4⟩ := h4
    obtain ⟨u1, u2, u3, u4⟩ := h6
    have hx5 : (bnd (up2 V2 0 37 (1 : Int32)) fun V_1 => bnd (up2 V_1 0 38 (V_1 0 0)) fun V_2 => bnd (up2 V_2 0 39 (V_2 0 5)) fun V_3 => bnd (up2 V_3 0 40 (V_3 0 6)) fun V_4 => bnd (up2 V_4 0 41 (V_4 0 7)) fun V_5 => if isz (V_5 0 8) = true then bnd (up2 V_5 0 42 (V_5 0 8)) fun V_6 => bnd (up2 V_6 0 43 (V_6 0 9)) fun V_7 => bnd (up2 V_7 0 44 (V_7 0 10)) fun V_8 => f_X5_image_73 20000 V_8 L2 (0 : Int32) else none) = some (nI ct, W, L2) := by
      rw [hU, w5 L2, gb 9 (by decide) (by decide) (by decide) (by decide) (by decide) (by decide) (by decide) (by decide), h5.2.1]
    rw [hQ]
    refine ⟨nI ct, up2 Q 0 4 1, L, W, L2, ?_, hx5, s, q, ρ, n, K, T, B, Y, G, st, nv, bt, ct, sn, sf, so, ?_, ?_, ?_, ?_, ?_, ?_, h7, ⟨true, ρ, ?_, ?_, Nat.le_refl _, ?_, fun _ _ => ?_⟩, ?_⟩
    · simp only [bd2, bnd]
      rw [show up2 Q 0 4 1 10 3 = Q 10 3 from rfl, q3, h5.1]
    · unfold RPg
      rw [f0 13 (by decide), fa 14 (by decide) (by decide), show up2 Q 0 4 1 1 = Q 1 from rfl, show up2 Q 0 4 1 2 = Q 2 from rfl, hQa 1 (by decide), hQa 2 (by decide)]
      exact h1
    · unfold RRg
      rw [f0 0 (by decide), show up2 Q 0 4 1 0 5 = Q 0 5 from rfl, hQa 0 (by decide)]
      exact h2
    · unfold RCi Mb
      rw [f0 5 (by decide), f0 6 (by decide), f0 7 (by decide), f0 8 (by decide), f0 1 (by decide), fa 4 (by decide) (by decide), show up2 Q 0 4 1 6 = Q 6 from rfl, hQa 6 (by decide)]
      exact h3
    · unfold RVe
      rw [f0 2 (by decide), fa 3 (by decide) (by decide), show up2 Q 0 4 1 5 = Q 5 from rfl, show up2 Q 0 4 1 7 = Q 7 from rfl, hQa 5 (by decide), hQa 7 (by decide)]
      exact ⟨e1, e2, e3, e4⟩
    · unfold RCt
      rw [f0 9 (by decide), show up2 Q 0 4 1 5 = Q 5 from rfl, hQa 5 (by decide)]
      exact h5
    · unfold RSn
      rw [f0 10 (by decide), fa 11 (by decide) (by decide), fa 12 (by decide) (by decide), show up2 Q 0 4 1 5 = Q 5 from rfl, show up2 Q 0 4 1 8 = Q 8 from rfl, show up2 Q 0 4 1 9 = Q 9 from rfl, hQa 5 (by decide), hQa 8 (by decide), hQa 9 (by decide)]
      exact ⟨u1, u2, u3, u4⟩
    · rw [hw0, g37]; rfl
    · rw [hw0, g38]; exact h2.2.1
    · rw [decide_eq_true rfl]; rfl
    · refine ⟨K, T, B, Y, G, st, bt, ct, sn, sf, so, ⟨q1, h3.2.2.2, a2, a1, hn⟩, ⟨?_, ?_, ?_, ?_⟩, fun i hi => ?_, ⟨?_, fun v hv => ⟨?_, ?_, (e4 v hv).2.2⟩⟩, ⟨?_, ?_, h5.2.2⟩, ⟨?_, ?_, u3, fun k hk => ⟨⟨?_, ?_, (u4 k hk).1.2.2⟩, ⟨?_, ?_, (u4 k hk).2.2.2⟩⟩⟩⟩
      · rw [hw0, g39]; exact h3.2.1.1
      · rw [hw0, g40]; exact h3.2.1.2.1
      · rw [hw0, g41]; exact h3.2.1.2.2.1
      · rw [hw0, g42]; exact h3.2.1.2.2.2
      · rw [w1 i (by omega), gc 4 (by decide)]; exact h3.2.2.1.2 i hi
      · exact q2.trans e1
      · exact (q5 v (by omega)).trans (e4 v hv).1
      · rw [w2 v (by omega), gc 3 (by decide)]; exact (e4 v hv).2.1
      · exact q3.trans h5.1
      · rw [hw0, g43]; exact h5.2.1
      · exact q4.trans u1
      · rw [hw0, g44]; exact u2
      · exact ((q6 k (by omega)).1).trans (u4 k hk).1.1
      · rw [(w3 k (by omega)).1, gc 11 (by decide)]; exact (u4 k hk).1.2.1
      · exact ((q6 k (by omega)).2).trans (u4 k hk).2.1
      · rw [(w3 k (by omega)).2, gc 12 (by decide)]; exact (u4 k hk).2.2.1
    · exact h9.same (show Q 17 = V 17 from hQa 17 (by decide)) (show Q 18 = V 18 from hQa 18 (by decide)) rfl rfl
  · have hz : n = 0 := by omega
    subst hz
    exact ⟨_, V, L, V2, L2, if_pos rfl, if_pos rfl, h.up L2⟩
theorem sim_restore : Sim_restore Rel := by
  rintro N V L V2 L2 hN ⟨s, q, ρ, n, K, T, B, Y, G, st, nv, bt, ct, sn, sf, so, h⟩
  obtain ⟨h1, h2, h3, h4, h5, h6, h7, h8, h9⟩ := h.mono
  have hn := h7.le
  have h8' := h8
  obtain ⟨km, κ, k1, k2, k3, k4, k5⟩ := h8'
  have hρ : ρ ≤ N + 1 := h2.2.2
  unfold f_X4_restore f_X5_restore
  rw [k4, k1, k2, h2.2.1]
  cases km with
  | false => exact ⟨_, V, L, V2, L2, if_pos rfl, if_pos rfl, h.up L2⟩
  | true =>
    by_cases hk : κ = ρ
    · subst hk
      rw [decide_eq_true rfl, if_neg (show ¬ bz (true && true) = 0 by decide), if_neg (show ¬ bz true = 0 by decide), if_pos rfl]
      obtain ⟨K', T', B', Y', G', st', bt', ct', sn', sf', so', ⟨c0, c1, c2, c3, c4⟩, ⟨d1, d2, d3, d4⟩, d5, ⟨p1, p2⟩, ⟨q1, q2, q3⟩, ⟨r1, r2, r3, r4⟩⟩ := k5 rfl rfl
      obtain ⟨a1, a2, a3⟩ := h7.ok (by omega)
      obtain ⟨U, hU, g5, g6, g7, g8, g9, g10, gb, gc⟩ := res_pre V2 L2 (by rw [d4]; exact bz_isz _)
      obtain ⟨W, w1, w2, w3, w4, w5⟩ := res_all U
      obtain ⟨Q, hQ, z1, ⟨z2, z3, z4⟩, z5, z6, z7⟩ := take_r (L := L) c0
      have hw0 : W 0 = U 0 := w4 0 (by decide) (by decide) (by decide) (by decide)
      have f0 : ∀ b, b < 5 ∨ 10 < b → W 0 b = V2 0 b := fun b hb => by rw [hw0]; exact gb b (by omega) (by omega) (by omega) (by omega) (by omega) (by omega)
      have fa : ∀ a, a ≠ 0 → a ≠ 3 → a ≠ 4 → a ≠ 11 → a ≠ 12 → W a = V2 a := fun a h0 h3 h4 h11 h12 => by rw [w4 a h4 h3 h11 h12]; exact gc a h0
      have hQa : ∀ a, a < 5 ∨ 9 < a → Q a = V a := fun a ha => z7 a (by omega) (by omega) (by omega) (by omega) (by omega)
      obtain ⟨e1, e2, e3, e4⟩ := h4
      have hx5 : (bnd (up2 V2 0 5 (V2 0 39)) fun V_1 => bnd (up2 V_1 0 6 (V_1 0 40)) fun V_2 => bnd (up2 V_2 0 7 (V_2 0 41)) fun V_3 => if isz (V_3 0 42) = true then bnd (up2 V_3 0 8 (V_3 0 42)) fun V_4 => bnd (up2 V_4 0 9 (V_4 0 43)) fun V_5 => bnd (up2 V_5 0 10 (V_5 0 44)) fun V_6 => f_X5_restore_71 20000 V_6 L2 (0 : Int32) else none) = some (nI ct', W, L2) := by
        rw [hU, w5 L2, g9, q2]
      rw [hQ]
      refine ⟨nI ct', Q, L, W, L2, ?_, hx5, s, q, κ, n, K', T', B', Y', G', st', nv, bt', ct', sn', sf', so', ?_, ?_, ⟨z1, ⟨?_, ?_, ?_, ?_⟩, ⟨?_, fun i hi => ?_⟩, c1⟩, ⟨z2.trans p1, ?_, e3, fun v hv => ⟨?_, ?_, (p2 v hv).2.2⟩⟩, ⟨z3.trans q1, ?_, q3⟩, ⟨z4.trans r1, ?_, r3, fun k hk => ⟨⟨?_, ?_, (r4 k hk).1.2.2⟩, ⟨?_, ?_, (r4 k hk).2.2.2⟩⟩⟩, Or.inr ⟨c3, c4, c2, a3⟩, ?_, ?_⟩
      · simp only [bd2]
        rw [z3, q1]
      · unfold RPg
        rw [f0 13 (by decide), fa 14 (by decide) (by decide) (by decide) (by decide) (by decide), hQa 1 (by decide), hQa 2 (by decide)]
        exact h1
      · unfold RRg
        rw [f0 0 (by decide), hQa 0 (by decide)]
        exact h2
      · rw [hw0, g5]; exact d1
      · rw [hw0, g6]; exact d2
      · rw [hw0, g7]; exact d3
      · rw [hw0, g8]; exact d4
      · rw [f0 1 (by decide)]; exact h3.2.2.1.1
      · rw [w1 i (by omega), gc 45 (by decide)]; exact d5 i hi
      · rw [f0 2 (by decide)]; exact e2
      · exact (z5 v (by omega)).trans (p2 v hv).1
      · rw [w2 v (by omega), gc 46 (by decide)]; exact (p2 v hv).2.1
      · rw [hw0, g9]; exact q2
      · rw [hw0, g10]; exact r2
      · exact ((z6 k (by omega)).1).trans (r4 k hk).1.1
      · rw [(w3 k (by omega)).1, gc 47 (by decide)]; exact (r4 k hk).1.2.1
      · exact ((z6 k (by omega)).2).trans (r4 k hk).2.1
      · rw [(w3 k (by omega)).2, gc 48 (by decide)]; exact (r4 k hk).2.2.1
      · unfold RKp RIm
        rw [f0 37 (by decide), f0 38 (by decide), f0 39 (by decide), f0 40 (by decide), f0 41 (by decide), f0 42 (by decide), f0 43 (by decide), f0 44 (by decide), fa 45 (by decide) (by decide) (by decide) (by decide) (by decide), fa 46 (by decide) (by decide) (by decide) (by decide) (by decide), fa 47 (by decide) (by decide) (by decide) (by decide) (by decide), fa 48 (by decide) (by decide) (by decide) (by decide) (by decide), hQa 0 (by decide), hQa 10 (by decide), hQa 11 (by decide), hQa 12 (by decide), hQa 13 (by decide), hQa 14 (by decide)]
        exact h8
      · exact h9.same (hQa 17 (by decide)) (hQa 18 (by decide)) rfl rfl
    · rw [decide_eq_false hk, if_neg (show ¬ nI κ = nI ρ from fun e => hk ((nI_eq (by omega) (by omega)).mp e))]
      exact ⟨_, V, L, V2, L2, if_pos rfl, rfl, h.up L2⟩
