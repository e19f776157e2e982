/-! the digest -/
section
variable {N s : Nat} {q : Nat → Nat} {ρ n : Nat} {K : Nat → Nat} {T B Y G : Nat} {st : Nat × Nat × Nat × Bool} {nv : Nat} {bt : Nat → Nat} {ct sn : Nat} {sf so : Nat → Nat}
theorem d27 {c : Nat} (hc : c < n) {k18 : (Nat → Nat → Int32) → (Nat → Int64) → Int64 → Int32 → Option (Int64 × (Nat → Nat → Int32) × (Nat → Int64))} {x3 : Int32} {k9 : (Nat → Nat → Int32) → (Nat → Int64) → Int32 → Option (Int64 × (Nat → Nat → Int32) × (Nat → Int64))} :
    ∀ (m fuel fuel2 x : Nat) (V : Nat → Nat → Int32) (L : Nat → Int64) (V2 : Nat → Nat → Int32) (L2 : Nat → Int64) (y : Int64), RelX N s q ρ n K T B Y G st nv bt ct sn sf so V L V2 → L2 49 = y → x + m = 6 → m < fuel → m < fuel2 →
      ∃ (V' : Nat → Nat → Int32) (L' : Nat → Int64) (V2' : Nat → Nat → Int32) (L2' : Nat → Int64) (y' : Int64), RelX N s q ρ n K T B Y G st nv bt ct sn sf so V' L' V2' ∧ L2' 49 = y' ∧ f_X4_digest_27 k18 x3 (nI c) fuel V L y (nI x) = k18 V' L' y' (nI (c + 1)) ∧ f_X5_digest_19 k9 (nI c) fuel2 V2 L2 (nI x) = k9 V2' L2' (nI (c + 1)) := by
  intro m
  induction m with
  | zero =>
    intro fuel fuel2 x V L V2 L2 y h hy hx hf hf2
    obtain ⟨g, rfl⟩ : ∃ g, fuel = g + 1 := ⟨fuel - 1, by omega⟩
    obtain ⟨g2, rfl⟩ : ∃ g, fuel2 = g + 1 := ⟨fuel2 - 1, by omega⟩
    obtain ⟨V', L', V2', L2', y', r1, r2, r3, r4⟩ := dg_step (begin4 h hc) hy
    refine ⟨V', L', V2', L2', y', r1, r2, ?_, ?_⟩
    · rw [f_X4_digest_27, if_pos (show (5 : Int32) < nI x from nI_lt (a := 5) (by omega) (by omega)), nI_1]
      exact r3 (fun V L t => k18 V L t (nI (c + 1)))
    · rw [f_X5_digest_19, if_pos (show (6 : Int32) ≤ nI x from nI_le (a := 6) (by omega) (by omega)), nI_1]
      exact r4 (fun V L => k9 V L (nI (c + 1)))
  | succ m ih =>
    intro fuel fuel2 x V L V2 L2 y h hy hx hf hf2
    obtain ⟨g, rfl⟩ : ∃ g, fuel = g + 1 := ⟨fuel - 1, by omega⟩
    obtain ⟨g2, rfl⟩ : ∃ g, fuel2 = g + 1 := ⟨fuel2 - 1, by omega⟩
    obtain ⟨V', L', V2', L2', y', r1, r2, r3, r4⟩ := dg_step ((child_lk h hc (show x ≤ 5 by omega)).rel h) hy
    obtain ⟨V'', L'', V2'', L2'', y'', t1, t2, t3, t4⟩ := ih g g2 (x + 1) V' L' V2' L2' y' r1 r2 (by omega) (by omega) (by omega)
    refine ⟨V'', L'', V2'', L2'', y'', t1, t2, ?_, ?_⟩
    · rw [f_X4_digest_27, if_neg (show ¬ (5 : Int32) < nI x from nI_nlt (a := 5) (by omega) (by decide)), nI_1]
      exact (r3 (fun V L t => f_X4_digest_27 k18 x3 (nI c) g V L t (nI (x + 1)))).trans t3
    · rw [f_X5_digest_19, if_neg (show ¬ (6 : Int32) ≤ nI x from nI_ge (b := 6) (by omega) (by decide)), nI_1]
      exact (r4 (fun V L => f_X5_digest_19 k9 (nI c) g2 V L (nI (x + 1)))).trans t4
theorem d18 :
    ∀ (m fuel fuel2 c : Nat) (V : Nat → Nat → Int32) (L : Nat → Int64) (V2 : Nat → Nat → Int32) (L2 : Nat → Int64) (y : Int64), RelX N s q ρ n K T B Y G st nv bt ct sn sf so V L V2 → L2 49 = y → c + m = n → m < fuel → m < fuel2 →
      ∃ (V' : Nat → Nat → Int32) (L' : Nat → Int64) (V2' : Nat → Nat → Int32) (L2' : Nat → Int64) (y' : Int64), RelX N s q ρ n K T B Y G st nv bt ct sn sf so V' L' V2' ∧ L2' 49 = y' ∧ f_X4_digest_18 (nI n) fuel V L y (nI c) = f_X4_digest_80 (nI n) 20000 V' L' y' (nI 0) ∧ f_X5_digest_9 fuel2 V2 L2 (nI c) = f_X5_digest_62 20000 V2' L2' (nI 0) := by
  intro m
  induction m with
  | zero =>
    intro fuel fuel2 c V L V2 L2 y h hy hx hf hf2
    obtain ⟨g, rfl⟩ : ∃ g, fuel = g + 1 := ⟨fuel - 1, by omega⟩
    obtain ⟨g2, rfl⟩ : ∃ g, fuel2 = g + 1 := ⟨fuel2 - 1, by omega⟩
    have hn := h.2.2.2.2.2.2.1.le
    refine ⟨V, L, V2, L2, y, h, hy, ?_, ?_⟩
    · rw [f_X4_digest_18, if_pos (nI_le (by omega) (by omega))]
      rfl
    · rw [f_X5_digest_9, h.2.2.1.2.2.1.1, if_pos (nI_le (by omega) (by omega))]
      rfl
  | succ m ih =>
    intro fuel fuel2 c V L V2 L2 y h hy hx hf hf2
    obtain ⟨g, rfl⟩ : ∃ g, fuel = g + 1 := ⟨fuel - 1, by omega⟩
    obtain ⟨g2, rfl⟩ : ∃ g, fuel2 = g + 1 := ⟨fuel2 - 1, by omega⟩
    have hn := h.2.2.2.2.2.2.1.le
    obtain ⟨V', L', V2', L2', y', r1, r2, r3, r4⟩ := d27 (show c < n by omega) (k18 := f_X4_digest_18 (nI n) g) (x3 := nI n) (k9 := f_X5_digest_9 g2) 6 20000 20000 0 V L V2 L2 y h hy (by omega) (by omega) (by omega)
    obtain ⟨V'', L'', V2'', L2'', y'', t1, t2, t3, t4⟩ := ih g g2 (c + 1) V' L' V2' L2' y' r1 r2 (by omega) (by omega) (by omega)
    refine ⟨V'', L'', V2'', L2'', y'', t1, t2, ?_, ?_⟩
    · rw [f_X4_digest_18, if_neg (nI_ge (by omega) (by omega))]
      exact r3.trans t3
    · rw [f_X5_digest_9, h.2.2.1.2.2.1.1, if_neg (nI_ge (by omega) (by omega))]
      exact r4.trans t4
theorem d95 {v : Nat} (hv : v < nv) {k80 : (Nat → Nat → Int32) → (Nat → Int64) → Int64 → Int32 → Option (Int64 × (Nat → Nat → Int32) × (Nat → Int64))} {x3 : Int32} {k62 : (Nat → Nat → Int32) → (Nat → Int64) → Int32 → Option (Int64 × (Nat → Nat → Int32) × (Nat → Int64))} :
    ∀ (m fuel fuel2 x : Nat) (V : Nat → Nat → Int32) (L : Nat → Int64) (V2 : Nat → Nat → Int32) (L2 : Nat → Int64) (y : Int64), RelX N s q ρ n K T B Y G st nv bt ct sn sf so V L V2 → L2 49 = y → x + m = 3 → m < fuel → m < fuel2 →
      ∃ (V' : Nat → Nat → Int32) (L' : Nat → Int64) (V2' : Nat → Nat → Int32) (L2' : Nat → Int64) (y' : Int64), RelX N s q ρ n K T B Y G st nv bt ct sn sf so V' L' V2' ∧ L2' 49 = y' ∧ f_X4_digest_95 k80 x3 (nI v) fuel V L y (nI x) = k80 V' L' y' (nI (v + 1)) ∧ f_X5_digest_72 k62 (nI v) fuel2 V2 L2 (nI x) = k62 V2' L2' (nI (v + 1)) := by
  intro m
  induction m with
  | zero =>
    intro fuel fuel2 x V L V2 L2 y h hy hx hf hf2
    obtain ⟨g, rfl⟩ : ∃ g, fuel = g + 1 := ⟨fuel - 1, by omega⟩
    obtain ⟨g2, rfl⟩ : ∃ g, fuel2 = g + 1 := ⟨fuel2 - 1, by omega⟩
    refine ⟨V, L, V2, L2, y, h, hy, ?_, ?_⟩
    · rw [f_X4_digest_95, if_pos (show (2 : Int32) < nI x from nI_lt (a := 2) (by omega) (by omega)), nI_1]
    · rw [f_X5_digest_72, if_pos (show (3 : Int32) ≤ nI x from nI_le (a := 3) (by omega) (by omega)), nI_1]
  | succ m ih =>
    intro fuel fuel2 x V L V2 L2 y h hy hx hf hf2
    obtain ⟨g, rfl⟩ : ∃ g, fuel = g + 1 := ⟨fuel - 1, by omega⟩
    obtain ⟨g2, rfl⟩ : ∃ g, fuel2 = g + 1 := ⟨fuel2 - 1, by omega⟩
    obtain ⟨V', L', V2', L2', y', r1, r2, r3, r4⟩ := dg_step ((verse_lk h hv (show x ≤ 2 by omega)).rel h) hy
    obtain ⟨V'', L'', V2'', L2'', y'', t1, t2, t3, t4⟩ := ih g g2 (x + 1) V' L' V2' L2' y' r1 r2 (by omega) (by omega) (by omega)
    refine ⟨V'', L'', V2'', L2'', y'', t1, t2, ?_, ?_⟩
    · rw [f_X4_digest_95, if_neg (show ¬ (2 : Int32) < nI x from nI_nlt (a := 2) (by omega) (by decide)), nI_1]
      exact (r3 (fun V L t => f_X4_digest_95 k80 x3 (nI v) g V L t (nI (x + 1)))).trans t3
    · rw [f_X5_digest_72, if_neg (show ¬ (3 : Int32) ≤ nI x from nI_ge (b := 3) (by omega) (by decide)), nI_1]
      exact (r4 (fun V L => f_X5_digest_72 k62 (nI v) g2 V L (nI (x + 1)))).trans t4
theorem d80 :
    ∀ (m fuel fuel2 v : Nat) (V : Nat → Nat → Int32) (L : Nat → Int64) (V2 : Nat → Nat → Int32) (L2 : Nat → Int64) (y : Int64), RelX N s q ρ n K T B Y G st nv bt ct sn sf so V L V2 → L2 49 = y → v + m = nv → m < fuel → m < fuel2 →
      ∃ (V' : Nat → Nat → Int32) (L' : Nat → Int64) (V2' : Nat → Nat → Int32) (L2' : Nat → Int64) (y' : Int64), RelX N s q ρ n K T B Y G st nv bt ct sn sf so V' L' V2' ∧ L2' 49 = y' ∧ f_X4_digest_80 (nI n) fuel V L y (nI v) = f_X4_digest_80 (nI n) (0 + 1) V' L' y' (nI nv) ∧ f_X5_digest_62 fuel2 V2 L2 (nI v) = f_X5_digest_62 (0 + 1) V2' L2' (nI nv) := by
  intro m
  induction m with
  | zero =>
    intro fuel fuel2 v V L V2 L2 y h hy hx hf hf2
    obtain ⟨g, rfl⟩ : ∃ g, fuel = g + 1 := ⟨fuel - 1, by omega⟩
    obtain ⟨g2, rfl⟩ : ∃ g, fuel2 = g + 1 := ⟨fuel2 - 1, by omega⟩
    have hnv := h.2.2.2.1.2.2.1
    have hv : v = nv := by omega
    subst hv
    refine ⟨V, L, V2, L2, y, h, hy, ?_, ?_⟩
    · rw [f_X4_digest_80, f_X4_digest_80, h.2.2.2.1.1, if_pos (nI_le (by omega) (by omega)), if_pos (nI_le (by omega) (by omega))]
    · rw [f_X5_digest_62, f_X5_digest_62, h.2.2.2.1.2.1, if_pos (nI_le (by omega) (by omega)), if_pos (nI_le (by omega) (by omega))]
  | succ m ih =>
    intro fuel fuel2 v V L V2 L2 y h hy hx hf hf2
    obtain ⟨g, rfl⟩ : ∃ g, fuel = g + 1 := ⟨fuel - 1, by omega⟩
    obtain ⟨g2, rfl⟩ : ∃ g, fuel2 = g + 1 := ⟨fuel2 - 1, by omega⟩
    have hnv := h.2.2.2.1.2.2.1
    obtain ⟨V', L', V2', L2', y', r1, r2, r3, r4⟩ := d95 (show v < nv by omega) (k80 := f_X4_digest_80 (nI n) g) (x3 := nI n) (k62 := f_X5_digest_62 g2) 3 20000 20000 0 V L V2 L2 y h hy (by omega) (by omega) (by omega)
    obtain ⟨V'', L'', V2'', L2'', y'', t1, t2, t3, t4⟩ := ih g g2 (v + 1) V' L' V2' L2' y' r1 r2 (by omega) (by omega) (by omega)
    refine ⟨V'', L'', V2'', L2'', y'', t1, t2, ?_, ?_⟩
    · rw [f_X4_digest_80, h.2.2.2.1.1, if_neg (nI_ge (by omega) (by omega))]
      exact r3.trans t3
    · rw [f_X5_digest_62, h.2.2.2.1.2.1, if_neg (nI_ge (by omega) (by omega))]
      exact r4.trans t4
theorem d190 {V : Nat → Nat → Int32} {L : Nat → Int64} {V2 : Nat → Nat → Int32} {L2 : Nat → Int64} {y : Int64} (h : RelX N s q ρ n K T B Y G st nv bt ct sn sf so V L V2) (h0 : 0 < n) (hy : L2 49 = y) :
      ∃ (V' : Nat → Nat → Int32) (L' : Nat → Int64) (V2' : Nat → Nat → Int32) (L2' : Nat → Int64) (y' : Int64), RelX N s q ρ n K T B Y G st nv bt ct sn sf so V' L' V2' ∧ L2' 49 = y' ∧ f_X4_digest_190 V L y (nI n) = f_X4_digest_261 (nI n) 20000 V' L' y' (nI 0) ∧ (if (f_X5_isIn (V2 0 5) (0 : Int32)) = 0 then (f_X5_mixRing_85 V2 L2) else (if (f_X5_isIn (V2 0 5) (1 : Int32)) = 0 then (f_X5_mixRing_85 V2 L2) else (bd3 (f_X5_gameNow V2 L2 (0 : Int32) (1 : Int32) (0 : Int32)) fun r_21 V_22 L_23 => bd2 (f_X5_mix V_22 L_23 r_21.toInt64) fun V_24 L_25 => bd3 (f_X5_gameNow V_24 L_25 (0 : Int32) (1 : Int32) (1 : Int32)) fun r_26 V_27 L_28 => bd2 (f_X5_mix V_27 L_28 r_26.toInt64) fun V_29 L_30 => f_X5_mixRing_85 V_29 L_30))) = f_X5_mixRing_85 V2' L2' := by
  have h7 := h.2.2.2.2.2.2.1
  have h3 := h.2.2.1
  have hn := h7.le
  obtain ⟨a1, a2, a3⟩ := h7.ok h0
  have hI9 := lt_pow (show n ≤ 9 by omega) a2.1
  have c0 : f_X0_isIn (V 6) (0 : Int32) = bz (st.1.testBit 0) := cisIn_eq (i := 0) h3.1.2.2.2.2.2.1 a2.1 (by omega) (by omega)
  have c1 : f_X0_isIn (V 6) (1 : Int32) = bz (st.1.testBit 1) := cisIn_eq (i := 1) h3.1.2.2.2.2.2.1 a2.1 (by omega) (by omega)
  have e0 : f_X5_isIn (V2 0 5) (0 : Int32) = bz (st.1.testBit 0) := by rw [h3.2.1.1]; exact isIn_eq (i := 0) (by omega) (by omega)
  have e1 : f_X5_isIn (V2 0 5) (1 : Int32) = bz (st.1.testBit 1) := by rw [h3.2.1.1]; exact isIn_eq (i := 1) (by omega) (by omega)
  unfold f_X4_digest_190
  rw [hasRing_eq h3.1.1 (by omega), decide_eq_true h0, if_neg (show ¬ bz true = 0 by decide), c0, c1, e0, e1]
  cases g0 : st.1.testBit 0 with
  | false =>
    rw [if_pos (show bz false = 0 from rfl), if_pos (show bz false = 0 from rfl)]
    exact ⟨V, L, V2, L2, y, h, hy, rfl, rfl⟩
  | true =>
    rw [if_neg (show ¬ bz true = 0 by decide), if_neg (show ¬ bz true = 0 by decide)]
    cases g1 : st.1.testBit 1 with
    | false =>
      rw [if_pos (show bz false = 0 from rfl), if_pos (show bz false = 0 from rfl)]
      exact ⟨V, L, V2, L2, y, h, hy, rfl, rfl⟩
    | true =>
      rw [if_neg (show ¬ bz true = 0 by decide), if_neg (show ¬ bz true = 0 by decide)]
      obtain ⟨V', L', V2', L2', y', r1, r2, r3, r4⟩ := dg_step (game4 h a1 g0 g1 (x3 := 0) (Or.inl rfl)) hy
      obtain ⟨V'', L'', V2'', L2'', y'', t1, t2, t3, t4⟩ := dg_step (game4 r1 a1 g0 g1 (x3 := 1) (Or.inr rfl)) r2
      refine ⟨V'', L'', V2'', L2'', y'', t1, t2, ?_, ?_⟩
      · exact (r3 (fun V L t => bd3 (f_X4_game V L (0 : Int32) (1 : Int32) (1 : Int32)) fun r_5 V_6 L_7 => bnd (((31 : Int64) * t) + r_5.toInt64) fun t_8 => f_X4_digest_261 (nI n) 20000 V_6 L_7 t_8 (0 : Int32))).trans (t3 (fun V L t => f_X4_digest_261 (nI n) 20000 V L t (0 : Int32)))
      · exact (r4 (fun V L => bd3 (f_X5_gameNow V L (0 : Int32) (1 : Int32) (1 : Int32)) fun r_26 V_27 L_28 => bd2 (f_X5_mix V_27 L_28 r_26.toInt64) fun V_29 L_30 => f_X5_mixRing_85 V_29 L_30)).trans (t4 (fun V L => f_X5_mixRing_85 V L))
theorem d261 {V2 : Nat → Nat → Int32} (hl : ∀ c, c < n → ∀ x2 L2, f_X5_likelyNow V2 L2 (nI c) x2 = some (likV (wy n T B Y G c 7 st) x2)) :
    ∀ (m fuel fuel2 c : Nat) (V : Nat → Nat → Int32) (L : Nat → Int64) (L2 : Nat → Int64) (y : Int64), RelX N s q ρ n K T B Y G st nv bt ct sn sf so V L V2 → L2 49 = y → c + m = n → m < fuel → m < fuel2 →
      ∃ (V' : Nat → Nat → Int32) (L' : Nat → Int64) (L2' : Nat → Int64) (y' : Int64), RelX N s q ρ n K T B Y G st nv bt ct sn sf so V' L' V2 ∧ L2' 49 = y' ∧ f_X4_digest_261 (nI n) fuel V L y (nI c) = f_X4_digest_321 V' L' 20000 y' (nI 0) ∧ f_X5_mixRing_91 fuel2 V2 L2 (nI c) = some (V2, L2') := by
  intro m
  induction m with
  | zero =>
    intro fuel fuel2 c V L L2 y h hy hx hf hf2
    obtain ⟨g, rfl⟩ : ∃ g, fuel = g + 1 := ⟨fuel - 1, by omega⟩
    obtain ⟨g2, rfl⟩ : ∃ g, fuel2 = g + 1 := ⟨fuel2 - 1, by omega⟩
    have hn := h.2.2.2.2.2.2.1.le
    refine ⟨V, L, L2, y, h, hy, ?_, ?_⟩
    · rw [f_X4_digest_261, if_pos (nI_le (by omega) (by omega))]
      rfl
    · rw [f_X5_mixRing_91, h.2.2.1.2.2.1.1, if_pos (nI_le (by omega) (by omega))]
  | succ m ih =>
    intro fuel fuel2 c V L L2 y h hy hx hf hf2
    obtain ⟨g, rfl⟩ : ∃ g, fuel = g + 1 := ⟨fuel - 1, by omega⟩
    obtain ⟨g2, rfl⟩ : ∃ g, fuel2 = g + 1 := ⟨fuel2 - 1, by omega⟩
    have h7 := h.2.2.2.2.2.2.1
    have h3 := h.2.2.1
    have hn := h7.le
    obtain ⟨a1, a2, a3⟩ := h7.ok (by omega)
    have hI9 := lt_pow (show n ≤ 9 by omega) a2.1
    rw [f_X4_digest_261, if_neg (nI_ge (show c < n by omega) (by omega)), f_X5_mixRing_91, h3.2.2.1.1, if_neg (nI_ge (show c < n by omega) (by omega)), cisIn_eq h3.1.2.2.2.2.2.1 a2.1 (by omega) (by omega), h3.2.1.1, isIn_eq (by omega) (by omega), nI_1]
    cases hin : st.1.testBit c with
    | false =>
      rw [if_pos (show bz false = 0 from rfl), if_pos (show bz false = 0 from rfl)]
      exact ih g g2 (c + 1) V L L2 y h hy (by omega) (by omega) (by omega)
    | true =>
      rw [if_neg (show ¬ bz true = 0 by decide), if_neg (show ¬ bz true = 0 by decide)]
      obtain ⟨W, L1, k1, k2⟩ := likely4 h (show c < n by omega) hin (x2 := 0) (Or.inl rfl)
      obtain ⟨W', L1', k1', k2'⟩ := likely4 k2 (show c < n by omega) hin (x2 := 1) (Or.inr rfl)
      rw [k1, bd3_s, bnd_e, k1', bd3_s, bnd_e, hl c (by omega), bd1_s, mix_eq V2 hy, bd2_s, hl c (by omega), bd1_s, mix_eq V2 (setc_at _ _ _), bd2_s]
      exact ih g g2 (c + 1) W' L1' _ _ k2' (setc_at _ _ _) (by omega) (by omega) (by omega)
variable {V : Nat → Nat → Int32} {L : Nat → Int64} {V2 : Nat → Nat → Int32}
theorem d360 (h : RelX N s q ρ n K T B Y G st nv bt ct sn sf so V L V2) :
    ∀ (m fuel fuel2 x : Nat) (L2 : Nat → Int64) (y : Int64), L2 49 = y → x + m = 11 → m < fuel → m < fuel2 → ∃ (L2' : Nat → Int64) (y' : Int64), f_X4_digest_373 V L fuel y (nI x) = some (y', V, L) ∧ f_X5_digest_140 fuel2 V2 L2 (nI x) = some (y', V2, L2') := by
  intro m
  induction m with
  | zero =>
    intro fuel fuel2 x L2 y hy hx hf hf2
    obtain ⟨g, rfl⟩ : ∃ g, fuel = g + 1 := ⟨fuel - 1, by omega⟩
    obtain ⟨g2, rfl⟩ : ∃ g, fuel2 = g + 1 := ⟨fuel2 - 1, by omega⟩
    refine ⟨L2, y, ?_, ?_⟩
    · rw [f_X4_digest_373, if_pos (show (10 : Int32) < nI x from nI_lt (a := 10) (by omega) (by omega))]
    · rw [f_X5_digest_140, if_pos (show (11 : Int32) ≤ nI x from nI_le (a := 11) (by omega) (by omega)), hy]
  | succ m ih =>
    intro fuel fuel2 x L2 y hy hx hf hf2
    obtain ⟨g, rfl⟩ : ∃ g, fuel = g + 1 := ⟨fuel - 1, by omega⟩
    obtain ⟨g2, rfl⟩ : ∃ g, fuel2 = g + 1 := ⟨fuel2 - 1, by omega⟩
    rw [f_X4_digest_373, if_neg (show ¬ (10 : Int32) < nI x from nI_nlt (a := 10) (by omega) (by decide)), f_X5_digest_140, if_neg (show ¬ (11 : Int32) ≤ nI x from nI_ge (b := 11) (by omega) (by decide)), howMany_eq h, bd1_s, mix_eq V2 hy, bd2_s, bnd_e, nI_1]
    exact ih g g2 (x + 1) _ _ (setc_at _ _ _) (by omega) (by omega) (by omega)
theorem d321 (h : RelX N s q ρ n K T B Y G st nv bt ct sn sf so V L V2) :
    ∀ (m fuel fuel2 x : Nat) (L2 : Nat → Int64) (y : Int64), L2 49 = y → x + m = s → m < fuel → m < fuel2 → ∃ (L2' : Nat → Int64) (y' : Int64), L2' 49 = y' ∧ f_X4_digest_321 V L fuel y (nI x) = f_X4_digest_373 V L 20000 y' (nI 0) ∧ f_X5_digest_113 fuel2 V2 L2 (nI x) = f_X5_digest_140 20000 V2 L2' (nI 0) := by
  obtain ⟨p1, p2, p3, p4⟩ := h.1
  intro m
  induction m with
  | zero =>
    intro fuel fuel2 x L2 y hy hx hf hf2
    obtain ⟨g, rfl⟩ : ∃ g, fuel = g + 1 := ⟨fuel - 1, by omega⟩
    obtain ⟨g2, rfl⟩ : ∃ g, fuel2 = g + 1 := ⟨fuel2 - 1, by omega⟩
    refine ⟨L2, y, hy, ?_, ?_⟩
    · rw [f_X4_digest_321, p1, if_pos (nI_le (by omega) (by omega))]
      rfl
    · rw [f_X5_digest_113, p2, if_pos (nI_le (by omega) (by omega))]
      rfl
  | succ m ih =>
    intro fuel fuel2 x L2 y hy hx hf hf2
    obtain ⟨g, rfl⟩ : ∃ g, fuel = g + 1 := ⟨fuel - 1, by omega⟩
    obtain ⟨g2, rfl⟩ : ∃ g, fuel2 = g + 1 := ⟨fuel2 - 1, by omega⟩
    obtain ⟨q1, q2, q3⟩ := p4 x (by omega)
    rw [f_X4_digest_321, p1, if_neg (nI_ge (show x < s by omega) (by omega)), if_neg (show ¬ (20 : Int32) ≤ nI x from nI_ge (b := 20) (show x < 20 by omega) (by decide)), if_pos (ib_nI (show x < 20 by omega) (by decide)), nI_clamp (by omega), q1, bnd_e, nI_1, f_X5_digest_113, p2, if_neg (nI_ge (show x < s by omega) (by omega)), if_pos (ib_nI (show x < 20 by omega) (by decide)), nI_clamp (by omega), q2, mix_eq V2 hy, bd2_s, nI_1]
    exact ih g g2 (x + 1) _ _ (setc_at _ _ _) (by omega) (by omega) (by omega)
theorem dring (h : RelX N s q ρ n K T B Y G st nv bt ct sn sf so V L V2) (h0 : 0 < n) {L2 : Nat → Int64} {y : Int64} (hy : L2 49 = y) :
      ∃ (V' : Nat → Nat → Int32) (L' : Nat → Int64) (V2' : Nat → Nat → Int32) (L2' : Nat → Int64) (y' : Int64), RelX N s q ρ n K T B Y G st nv bt ct sn sf so V' L' V2' ∧ L2' 49 = y' ∧ f_X4_digest_80 (nI n) (0 + 1) V L y (nI nv) = f_X4_digest_321 V' L' 20000 y' (nI 0) ∧ f_X5_digest_62 (0 + 1) V2 L2 (nI nv) = f_X5_digest_113 20000 V2' L2' (nI 0) := by
  have hn := h.2.2.2.2.2.2.1.le
  have hnv := h.2.2.2.1.2.2.1
  obtain ⟨V1, L1, W1, M1, y1, r11, r12, r13, r14⟩ := dg_step (last4 h h0) hy
  obtain ⟨V2', L2', W2, M2, y2, r21, r22, r23, r24⟩ := dg_step (stand4 r11 h0) r12
  obtain ⟨V3, L3, W3, M3, y3, r31, r32, r33, r34⟩ := dg_step (lengths4 r21 h0) r22
  obtain ⟨V4, L4, W4, M4, y4, r41, r42, r43, r44⟩ := dg_step (from4 r31 h0) r32
  obtain ⟨V5, L5, W5, M5, y5, r51, r52, r53, r54⟩ := d190 r41 h0 r42
  obtain ⟨W6, l1, l2, l3⟩ := lay4 r51 h0
  obtain ⟨V7, L7, M7, y7, r71, r72, r73, r74⟩ := d261 l3 n 20000 20000 0 V5 L5 M5 y5 l2 r52 (by omega) (by omega) (by omega)
  refine ⟨V7, L7, W6, M7, y7, r71, r72, ?_, ?_⟩
  · rw [f_X4_digest_80, h.2.2.2.1.1, if_pos (nI_le (by omega) (by omega)), hasRing_eq h.2.2.1.1.1 (by omega), decide_eq_true h0, if_neg (show ¬ bz true = 0 by decide)]
    refine (r13 (fun V_2 L_3 t_4 => bd3 (f_X4_stand V_2 L_3 (0 : Int32) (5 : Int32)) fun r_5 V_6 L_7 => bnd (((31 : Int64) * t_4) + r_5.toInt64) fun t_8 => bd3 (f_X4_lengths V_6 L_7) fun r_9 V_10 L_11 => bnd (((31 : Int64) * t_8) + r_9.toInt64) fun t_12 => bd3 (f_X4_from V_10 L_11) fun r_13 V_14 L_15 => bnd (((31 : Int64) * t_12) + r_13.toInt64) fun t_16 => f_X4_digest_190 V_14 L_15 t_16 (nI n))).trans ?_
    refine (r23 (fun V_6 L_7 t_8 => bd3 (f_X4_lengths V_6 L_7) fun r_9 V_10 L_11 => bnd (((31 : Int64) * t_8) + r_9.toInt64) fun t_12 => bd3 (f_X4_from V_10 L_11) fun r_13 V_14 L_15 => bnd (((31 : Int64) * t_12) + r_13.toInt64) fun t_16 => f_X4_digest_190 V_14 L_15 t_16 (nI n))).trans ?_
    refine (r33 (fun V_10 L_11 t_12 => bd3 (f_X4_from V_10 L_11) fun r_13 V_14 L_15 => bnd (((31 : Int64) * t_12) + r_13.toInt64) fun t_16 => f_X4_digest_190 V_14 L_15 t_16 (nI n))).trans ?_
    refine (r43 (fun V_14 L_15 t_16 => f_X4_digest_190 V_14 L_15 t_16 (nI n))).trans ?_
    exact r53.trans r73
  · have hmr : f_X5_mixRing V2 L2 = some (W6, M7) := by
      unfold f_X5_mixRing
      refine (r14 (fun V_4 L_5 => bd3 (f_X5_standNow V_4 L_5 (0 : Int32) (5 : Int32)) fun r_6 V_7 L_8 => bd2 (f_X5_mix V_7 L_8 r_6.toInt64) fun V_9 L_10 => bd3 (f_X5_lengthsNow V_9 L_10) fun r_11 V_12 L_13 => bd2 (f_X5_mix V_12 L_13 r_11.toInt64) fun V_14 L_15 => bd3 (f_X5_fromNow V_14 L_15) fun r_16 V_17 L_18 => bd2 (f_X5_mix V_17 L_18 r_16.toInt64) fun V_19 L_20 => _)).trans ?_
      refine (r24 (fun V_9 L_10 => bd3 (f_X5_lengthsNow V_9 L_10) fun r_11 V_12 L_13 => bd2 (f_X5_mix V_12 L_13 r_11.toInt64) fun V_14 L_15 => bd3 (f_X5_fromNow V_14 L_15) fun r_16 V_17 L_18 => bd2 (f_X5_mix V_17 L_18 r_16.toInt64) fun V_19 L_20 => _)).trans ?_
      refine (r34 (fun V_14 L_15 => bd3 (f_X5_fromNow V_14 L_15) fun r_16 V_17 L_18 => bd2 (f_X5_mix V_17 L_18 r_16.toInt64) fun V_19 L_20 => _)).trans ?_
      refine (r44 (fun V_19 L_20 => _)).trans ?_
      refine r54.trans ?_
      unfold f_X5_mixRing_85
      rw [l1 M5, bd2_s]
      exact r74
    rw [f_X5_digest_62, h.2.2.2.1.2.1, if_pos (nI_le (by omega) (by omega)), h.2.2.1.2.2.1.1, if_neg (nI_nle h0 (by omega)), hmr, bd2_s]
    rfl
theorem dnone (h : RelX N s q ρ n K T B Y G st nv bt ct sn sf so V L V2) (h0 : n = 0) (L2 : Nat → Int64) (y : Int64) : f_X4_digest_80 (nI n) (0 + 1) V L y (nI nv) = f_X4_digest_321 V L 20000 y (nI 0) ∧ f_X5_digest_62 (0 + 1) V2 L2 (nI nv) = f_X5_digest_113 20000 V2 L2 (nI 0) := by
  have hnv := h.2.2.2.1.2.2.1
  have hr : f_X3_hasRing V L = 0 := by
    rw [hasRing_eq h.2.2.1.1.1 (by omega), decide_eq_false (by omega)]
    rfl
  subst h0
  constructor
  · rw [f_X4_digest_80, h.2.2.2.1.1, if_pos (nI_le (by omega) (by omega)), if_pos hr]
    unfold f_X4_digest_190
    rw [if_pos hr, show (20000 : Nat) = 19999 + 1 from rfl, f_X4_digest_261, if_pos (by decide)]
    rfl
  · rw [f_X5_digest_62, h.2.2.2.1.2.1, if_pos (nI_le (by omega) (by omega)), h.2.2.1.2.2.1.1, if_pos (by decide)]
    rfl
end
theorem sim_digest : Sim_digest Rel := by
  rintro N V L V2 L2 hN ⟨s, q, ρ, n, K, T, B, Y, G, st, nv, bt, ct, sn, sf, so, h⟩
  have hn := h.2.2.2.2.2.2.1.le
  have hnv := h.2.2.2.1.2.2.1
  have hs := h.1.2.2.1
  obtain ⟨V1, L1, W1, M1, y1, a1, a2, a3, a4⟩ := d18 n 20000 20000 0 V L V2 (setc L2 49 1289) 1289 h (setc_at _ _ _) (by omega) (by omega) (by omega)
  obtain ⟨V3, L3, W3, M3, y3, b1, b2, b3, b4⟩ := d80 nv 20000 20000 0 V1 L1 W1 M1 y1 a1 a2 (by omega) (by omega) (by omega)
  have hmid : ∃ (V' : Nat → Nat → Int32) (L' : Nat → Int64) (V2' : Nat → Nat → Int32) (L2' : Nat → Int64) (y' : Int64), RelX N s q ρ n K T B Y G st nv bt ct sn sf so V' L' V2' ∧ L2' 49 = y' ∧ f_X4_digest_80 (nI n) (0 + 1) V3 L3 y3 (nI nv) = f_X4_digest_321 V' L' 20000 y' (nI 0) ∧ f_X5_digest_62 (0 + 1) W3 M3 (nI nv) = f_X5_digest_113 20000 V2' L2' (nI 0) := by
    by_cases h0 : 0 < n
    · exact dring b1 h0 b2
    · obtain ⟨e1, e2⟩ := dnone b1 (by omega) M3 y3
      exact ⟨V3, L3, W3, M3, y3, b1, b2, e1, e2⟩
  obtain ⟨V4, L4, W4, M4, y4, c1, c2, c3, c4⟩ := hmid
  obtain ⟨M5, y5, d1, d2, d3⟩ := d321 c1 s 20000 20000 0 M4 y4 c2 (by omega) (by omega) (by omega)
  obtain ⟨M6, y6, e1, e2⟩ := d360 c1 11 20000 20000 0 M5 y5 d1 (by omega) (by omega) (by omega)
  refine ⟨y6, V4, L4, W4, M6, ?_, ?_, c1.up M6⟩
  · unfold f_X4_digest
    rw [h.2.2.1.1.1]
    exact a3.trans (b3.trans (c3.trans (d2.trans e1)))
  · unfold f_X5_digest
    rw [bnd_e]
    exact a4.trans (b4.trans (c4.trans (d3.trans e2)))
