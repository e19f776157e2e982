/-! ROUNDS -/
theorem all_in : ∀ n, n < 10 → ishl 1 (nI n) - 1 = nI (2 ^ n - 1) := by decide +kernel
theorem lcg_c {d : Nat} (hd : d < 2 ^ 31) : (lrem (((1103515245 : Int64) * (nI d).toInt64) + (12345 : Int64)) (2147483648 : Int64)).toInt32 = nI ((1103515245 * d + 12345) % 2 ^ 31) := by
  rw [nI_l hd, show (1103515245 : Int64) = lN 1103515245 from rfl, show (12345 : Int64) = lN 12345 from rfl, show (2147483648 : Int64) = lN (2 ^ 31) from rfl, lN_mul, lN_add]
  unfold lrem
  rw [pk_lRem (by omega) (by decide) (by decide), lN_i]
theorem lcg_r {d : Nat} : (((1103515245 : Int64) * lN d) + (12345 : Int64)) &&& (2147483647 : Int64) = lN ((1103515245 * d + 12345) % 2 ^ 31) := by
  rw [show (1103515245 : Int64) = lN 1103515245 from rfl, show (12345 : Int64) = lN 12345 from rfl, show (2147483647 : Int64) = lN (2 ^ 31 - 1) from rfl, lN_mul, lN_add, fb_maskL]
section
variable {n : Nat} {K : Nat → Nat} {T B Y G : Nat} {st : Nat × Nat × Nat × Bool} {nv : Nat} {bt : Nat → Nat} {V2 : Nat → Nat → Int32}
theorem drawn_eq {V : Nat → Nat → Int32} {L : Nat → Int64} (h1 : V 5 2 = nI nv) (h2 : 1 ≤ nv) (h3 : nv ≤ 3) (h4 : ∀ v, v < nv → V 7 v = nI (bt v)) {d : Nat} (hd : d < 2 ^ 31) : f_X1_beatsDrawn V L (nI d) = some (nI (bt (d / 65536 % nv))) := by
  have hv : d / 65536 % nv < nv := Nat.mod_lt _ (by omega)
  unfold f_X1_beatsDrawn
  rw [h1, if_neg (nI_nle (by omega) (by omega)), if_neg (nI_ne0 (by omega) (by omega)), show (65536 : Int32) = nI 65536 from rfl, pk_div hd (by decide) (by decide)]
  unfold irem
  rw [pk_rem (by omega) (by omega) (by omega)]
  simp only [bnd, f_X1_beatsDrawn_27]
  rw [hasVerse_eq h1 h3, ib_nI hv (by omega), if_neg (show ¬ bz true = 0 by decide), if_pos (ib_nI (show d / 65536 % nv < 3 by omega) (by decide)), nI_clamp (by omega), h4 _ hv]
theorem draw_eq {V : Nat → Nat → Int32} {L : Nat → Int64} (h2 : 1 ≤ nv) (h3 : nv ≤ 3) {d : Nat} (hL : L 36 = lN d) : f_X5_draw V L (nI nv) = some (nI (((1103515245 * d + 12345) % 2 ^ 31) / 65536 % nv), V, setc L 36 (lN ((1103515245 * d + 12345) % 2 ^ 31))) := by
  unfold f_X5_draw
  rw [hL, lcg_r]
  have hz : ¬ (nI nv).toInt64 = 0 := by
    rw [nI_l (by omega), show (0 : Int64) = lN 0 from rfl, pk_lEQ (by omega) (by decide)]
    omega
  have hm : (1103515245 * d + 12345) % 2 ^ 31 < 2 ^ 31 := Nat.mod_lt _ (by decide)
  simp only [bnd]
  rw [if_neg hz, setc_at, nI_l (by omega), show (65536 : Int64) = lN 65536 from rfl, pk_lDiv (by omega) (by decide) (by decide)]
  unfold lrem
  rw [pk_lRem (by omega) (by omega) (by omega), lN_i]
theorem rounds_loop (hn : n ≤ 8) (hB : KB n K T B Y G) (hM : Mb V2 n K) (h2 : 1 ≤ nv) (h3 : nv ≤ 3) (hv2 : V2 0 2 = nI nv) (hb2 : ∀ v, v < nv → V2 3 v = nI (bt v) ∧ 1 ≤ bt v ∧ bt v ≤ 99) {t : Nat} (ht : t ≤ 60) {x3 : Int32} :
    ∀ (m fuel fuel2 j d : Nat) (x5 : Int32) (sx : Nat × Nat × Nat × Bool) (V : Nat → Nat → Int32) (L : Nat → Int64) (L2 : Nat → Int64), CiS (V 16) n T B Y G sx → Sok n sx → V 5 2 = nI nv → (∀ v, v < nv → V 7 v = nI (bt v)) → d < 2 ^ 31 → L2 36 = lN d → j + m = t → m < fuel → m < fuel2 →
      ∃ r W L3, f_X1_playRounds_23 (nI t) x3 fuel V L (nI d) x5 (nI j) = some (r, W, L) ∧ f_X5_roundsNow_16 (nI t) x3 fuel2 (setD (setSv V2 st) sx) L2 x5 (nI j) = some (r, setD (setSv V2 st) st, L3) ∧ F16 V W := by
  intro m
  induction m with
  | zero =>
    intro fuel fuel2 j d x5 sx V L L2 hC hs h5 h7 hd hL hj hf hf2
    obtain ⟨g, rfl⟩ : ∃ g, fuel = g + 1 := ⟨fuel - 1, by omega⟩
    obtain ⟨g2, rfl⟩ : ∃ g, fuel2 = g + 1 := ⟨fuel2 - 1, by omega⟩
    rw [f_X1_playRounds_23, f_X5_roundsNow_16, if_pos (nI_le (show t ≤ j by omega) (by omega)), if_pos (nI_le (show t ≤ j by omega) (by omega))]
    simp only [f_X5_roundsNow_104, load_eq, bd2]
    by_cases e0 : x3 = 0
    · rw [if_pos e0, if_pos e0]
      exact ⟨x5, V, L2, rfl, rfl, F16.rf V⟩
    · rw [if_neg e0, if_neg e0]
      by_cases e1 : x3 = 1
      · rw [if_pos e1, if_pos e1]
        exact ⟨V 16 7, V, L2, rfl, by rw [show V 16 7 = nI sx.2.2.1 from hC.2.2.2.2.2.2.2.1]; rfl, F16.rf V⟩
      · rw [if_neg e1, if_neg e1]
        exact ⟨nI d, V, L2, rfl, by rw [hL, lN_i], F16.rf V⟩
  | succ m ih =>
    intro fuel fuel2 j d x5 sx V L L2 hC hs h5 h7 hd hL hj hf hf2
    obtain ⟨g, rfl⟩ : ∃ g, fuel = g + 1 := ⟨fuel - 1, by omega⟩
    obtain ⟨g2, rfl⟩ : ∃ g, fuel2 = g + 1 := ⟨fuel2 - 1, by omega⟩
    have hcc := canCount_eq hC.2.2.1 hC.2.2.2.2.2.1 (show n ≤ 9 by omega) hs.1
    have hic := isCount_eq (L := L2) (st := sx) (V := setSv V2 st) hM.sv (show n ≤ 9 by omega) hs hB
    rw [f_X1_playRounds_23, f_X5_roundsNow_16, if_neg (nI_ge (show j < t by omega) (by omega)), if_neg (nI_ge (show j < t by omega) (by omega)), hcc, hic]
    simp only [bd1]
    cases hc : canB sx.1 B with
    | false =>
      rw [if_pos (show bz false = 0 from rfl), if_pos (show bz false = 0 from rfl)]
      obtain ⟨I, S, f, o⟩ := sx
      obtain ⟨g0, g1, g2', g3, g4, g5, g6, g7, g8⟩ := hC
      have hC' : CiS (setc V 16 (f_X0_allComeBack (V 16)) 16) n T B Y G (2 ^ n - 1, 0, f, o) := by
        rw [setc_at]
        refine ⟨g0, g1, g2', g3, g4, ?_, rfl, g7, g8⟩
        show ishl (1 : Int32) (V 16 0) - 1 = _
        rw [g0, all_in n (by omega)]
      have hs' : Sok n (2 ^ n - 1, 0, f, o) := ⟨Nat.sub_lt (Nat.two_pow_pos n) (by decide), Nat.two_pow_pos n, hs.2.2⟩
      obtain ⟨r, W, L3, k1, k2, k3⟩ := ih g g2 (j + 1) d (x5 + 1) (2 ^ n - 1, 0, f, o) (setc V 16 (f_X0_allComeBack (V 16))) L L2 hC' hs' h5 h7 hd hL (by omega) (by omega) (by omega)
      refine ⟨r, W, L3, ?_, ?_, (F16.st V _).tr k3⟩
      · simp only [bnd, nI_1]
        exact k1
      · simp only [bnd, nI_1]
        rw [show setD (setSv V2 st) (I, S, f, o) 0 1 = nI n from hM.1, all_in n (by omega), setD_5, ← nI_0, setD_6]
        exact k2
    | true =>
      rw [if_neg (show ¬ bz true = 0 by decide), if_neg (show ¬ bz true = 0 by decide)]
      have hm : (1103515245 * d + 12345) % 2 ^ 31 < 2 ^ 31 := Nat.mod_lt _ (by decide)
      have hvn : (1103515245 * d + 12345) % 2 ^ 31 / 65536 % nv < nv := Nat.mod_lt _ (by omega)
      obtain ⟨q1, q2, q3⟩ := hb2 _ hvn
      obtain ⟨c2, p1, p2⟩ := putOut_eq hC (show n ≤ 9 by omega) hs q2 q3 hc
      have hg := goCount_eq (L := setc L2 36 (lN ((1103515245 * d + 12345) % 2 ^ 31))) (V := setSv V2 st) (st := sx) hM.sv (show n ≤ 9 by omega) hs hB q2 q3 hc
      have hdr := draw_eq (V := setD (setSv V2 st) sx) h2 h3 hL
      have hdn := drawn_eq (bt := bt) (L := L) h5 h2 h3 h7 hm
      obtain ⟨r, W, L3, k1, k2, k3⟩ := ih g g2 (j + 1) ((1103515245 * d + 12345) % 2 ^ 31) x5 _ (setc V 16 c2) L (setc L2 36 (lN ((1103515245 * d + 12345) % 2 ^ 31))) p2 (cnt_ok hs).2 h5 h7 hm rfl (by omega) (by omega) (by omega)
      refine ⟨r, W, L3, ?_, ?_, (F16.st V _).tr k3⟩
      · rw [lcg_c hd]
        simp only [bnd]
        rw [hdn]
        simp only [p1, bd2, nI_1]
        exact k1
      · rw [show setD (setSv V2 st) sx 0 2 = nI nv from hv2, hdr]
        simp only [bd3]
        rw [if_pos (ib_nI (show (1103515245 * d + 12345) % 2 ^ 31 / 65536 % nv < 3 by omega) (by decide)), nI_clamp (by omega), show setD (setSv V2 st) sx 3 ((1103515245 * d + 12345) % 2 ^ 31 / 65536 % nv) = nI (bt ((1103515245 * d + 12345) % 2 ^ 31 / 65536 % nv)) from q1, hg]
        simp only [nI_1]
        exact k2
end
theorem sim_rounds : Sim_rounds Rel := by
  rintro N V L V2 L2 x1 x2 x3 hN ⟨s, q, ρ, n, K, T, B, Y, G, st, nv, bt, ct, sn, sf, so, h⟩
  have ha := h.a2
  have h' := h
  obtain ⟨h1, h2, h3, h4, h5, h6, h7, h8, h9⟩ := h'
  have hn := h7.le
  have hbad : (x1 < 1 ∨ 60 < x1 ∨ x2 < 0 ∨ x3 < 0 ∨ 2 < x3) → ∃ (r : Int32) (V1 : Nat → Nat → Int32) (L1 : Nat → Int64) (V3 : Nat → Nat → Int32) (L3 : Nat → Int64), (f_X4_rounds V L x1 x2 x3 = some (r, V1, L1)) ∧ (f_X5_rounds V2 L2 x1 x2 x3 = some (r, V3, L3)) ∧ Rel (N + 1) V1 L1 V3 L3 := by
    intro hb
    refine ⟨-102, V, L, V2, L2, ?_, ?_, h.up L2⟩
    · unfold f_X4_rounds
      by_cases c1 : x1 < 1
      · rw [if_pos c1]
      rw [if_neg c1]
      by_cases c2 : 60 < x1
      · rw [if_pos c2]
      rw [if_neg c2]
      by_cases c3 : x2 < 0
      · rw [if_pos c3]
      rw [if_neg c3]
      by_cases c4 : x3 < 0
      · rw [if_pos c4]
      rw [if_neg c4]
      by_cases c5 : 2 < x3
      · rw [if_neg (by rw [Int32.not_le]; exact c5)]
      · exact absurd hb (by simp [c1, c2, c3, c4, c5])
    · unfold f_X5_rounds
      by_cases c1 : x1 < 1
      · rw [if_pos (by rw [within_0]; exact Or.inl c1)]
      by_cases c2 : 60 < x1
      · rw [if_pos (by rw [within_0]; exact Or.inr c2)]
      rw [if_neg (by rw [within_0]; exact fun e => e.elim c1 c2)]
      by_cases c3 : x2 < 0
      · rw [if_pos c3]
      rw [if_neg c3]
      by_cases c4 : x3 < 0
      · rw [if_pos (by rw [within_0]; exact Or.inl c4)]
      by_cases c5 : 2 < x3
      · rw [if_pos (by rw [within_0]; exact Or.inr c5)]
      · exact absurd hb (by simp [c1, c2, c3, c4, c5])
  by_cases c1 : x1 < 1
  · exact hbad (Or.inl c1)
  by_cases c2 : 60 < x1
  · exact hbad (Or.inr (Or.inl c2))
  by_cases c3 : x2 < 0
  · exact hbad (Or.inr (Or.inr (Or.inl c3)))
  by_cases c4 : x3 < 0
  · exact hbad (Or.inr (Or.inr (Or.inr (Or.inl c4))))
  by_cases c5 : 2 < x3
  · exact hbad (Or.inr (Or.inr (Or.inr (Or.inr c5))))
  have ht : ∃ t, t ≤ 60 ∧ x1 = nI t := by
    have g3 : ib x1 61 = true := by
      rw [ib_toInt]
      have g1 : ¬ x1.toInt < 1 := fun e => c1 (by rw [Int32.lt_iff_toInt_lt]; exact e)
      have g2 : ¬ 60 < x1.toInt := fun e => c2 (by rw [show (60 : Int32) = nI 60 from by decide, nI_lt_iff (by decide)]; exact e)
      exact decide_eq_true (by omega)
    obtain ⟨i, hi, e⟩ := ib_of g3 (by decide)
    exact ⟨i, by omega, e⟩
  obtain ⟨t, ht60, rfl⟩ := ht
  obtain ⟨d, hd, rfl⟩ := nI_of c3
  unfold f_X4_rounds f_X5_rounds
  rw [if_neg c1, if_neg c2, if_neg c3, if_neg c4, if_pos (by rw [← Int32.not_lt]; exact c5), if_neg (show ¬ f_X5_within (nI t) 1 60 = 0 by rw [within_0]; exact fun e => e.elim c1 c2), if_neg c3, if_neg (show ¬ f_X5_within x3 0 2 = 0 by rw [within_0]; exact fun e => e.elim c4 c5), hasRing_eq h3.1.1 (by omega), h3.2.2.1.1]
  by_cases h0 : 0 < n
  · rw [decide_eq_true h0, if_neg (show ¬ bz true = 0 by decide), if_neg (nI_ne0 h0 (by omega))]
    obtain ⟨a1, a2, a3⟩ := h7.ok h0
    obtain ⟨e1, e2, e3, e4⟩ := h4
    obtain ⟨cc, t1, t2⟩ := takeAll_eq (c := V 16) h3.1
    have hsv := save_eq V2 L2 st
    rw [ha.sd] at hsv
    obtain ⟨r, W, L3, k1, k2, k3⟩ := rounds_loop (st := st) (x3 := x3) hn h3.2.2.2 ha.2 a3 e3 e2 (fun v hv => (e4 v hv).2) ht60 t 20000 20000 0 d (nI 0) st (setc V 16 cc) L (setc L2 36 (lN d)) t2 a2 e1 (fun v hv => (e4 v hv).1) hd rfl (by omega) (by omega) (by omega)
    have k1' : f_X1_playRounds V L (nI t) (nI d) x3 = some (r, W, L) := by
      unfold f_X1_playRounds
      rw [t1]
      simp only [bd1, bnd]
      rw [← nI_0]
      exact k1
    have k2' : f_X5_roundsNow V2 L2 (nI t) (nI d) x3 = some (r, setD (setSv V2 st) st, L3) := by
      unfold f_X5_roundsNow
      rw [hsv]
      simp only [bd2, bnd]
      rw [nI_l hd, ← nI_0]
      exact k2
    have hF := (F16.st V cc).tr k3
    refine ⟨r, W, L, setD (setSv V2 st) st, L3, by rw [k1']; rfl, by rw [k2']; rfl, (h.fr hF.fc ha.svd (h9.f16 hF)).up L3⟩
  · have hz : n = 0 := by omega
    subst hz
    exact ⟨_, V, L, V2, L2, if_pos rfl, if_pos rfl, h.up L2⟩
