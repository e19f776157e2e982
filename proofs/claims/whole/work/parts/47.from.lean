def FQ (V W : Nat → Nat → Int32) : Prop := ∀ a, a ≠ 15 → a ≠ 16 → a ≠ 19 → W a = V a
theorem FQ.rf (V : Nat → Nat → Int32) : FQ V V := fun _ _ _ _ => rfl
theorem FQ.tr {V W U : Nat → Nat → Int32} (h : FQ V W) (g : FQ W U) : FQ V U := fun a h1 h2 h3 => (g a h1 h2 h3).trans (h a h1 h2 h3)
theorem F16.fq {V W : Nat → Nat → Int32} (h : F16 V W) : FQ V W := fun a _ h2 _ => h a h2
theorem FQ.fc {V W : Nat → Nat → Int32} (h : FQ V W) : FC V W := ⟨by rw [h 1 (by decide) (by decide) (by decide)], fun a ha => h a (by omega) (by omega) (by omega)⟩
theorem RCa.fq {V W : Nat → Nat → Int32} {L : Nat → Int64} (h : RCa V L) (g : FQ V W) : RCa W L := h.same (g 17 (by decide) (by decide) (by decide)) (g 18 (by decide) (by decide) (by decide)) rfl rfl
theorem FQ.up19 (V : Nat → Nat → Int32) (i : Nat) (x : Int32) : FQ V (up2 V 19 i x) := fun a _ _ h => setc_ne V _ h
theorem RF.up35 (V : Nat → Nat → Int32) (i : Nat) (x : Int32) : RF V (up2 V 35 i x) := ⟨fun b hb => rfl, fun a ha hb => setc_ne V _ (by omega)⟩
def RO (V W : Nat → Nat → Int32) : Prop := (∀ b, b < 18 ∨ 21 < b → W 0 b = V 0 b) ∧ ∀ a, 0 < a → W a = V a
theorem RO.rf (V : Nat → Nat → Int32) : RO V V := ⟨fun _ _ => rfl, fun _ _ => rfl⟩
theorem RO.tr {V W U : Nat → Nat → Int32} (h : RO V W) (g : RO W U) : RO V U := ⟨fun b hb => (g.1 b hb).trans (h.1 b hb), fun a ha => (g.2 a ha).trans (h.2 a ha)⟩
theorem RO.rF {V W : Nat → Nat → Int32} (h : RO V W) : RF V W := ⟨fun b hb => h.1 b (by omega), fun a ha _ => h.2 a ha⟩
theorem RO.sv (V : Nat → Nat → Int32) (st : Nat × Nat × Nat × Bool) : RO V (setSv V st) := by
  refine ⟨fun b hb => ?_, fun a ha => ?_⟩
  · unfold setSv
    rw [if_pos rfl, if_neg (by omega), if_neg (by omega), if_neg (by omega), if_neg (by omega)]
  · funext b
    unfold setSv
    rw [if_neg (by omega)]
theorem RO.sd {V W : Nat → Nat → Int32} (h : RO V W) (st : Nat × Nat × Nat × Bool) : RO (setD V st) (setD W st) := by
  refine ⟨fun b hb => ?_, fun a ha => ?_⟩
  · unfold setD
    rw [if_pos rfl, if_pos rfl, h.1 b hb]
  · funext b
    unfold setD
    rw [if_neg (by omega), if_neg (by omega), h.2 a ha]
theorem A2.svo {V : Nat → Nat → Int32} {n : Nat} {K : Nat → Nat} {st : Nat × Nat × Nat × Bool} (h : A2 V n K st) : RO V (setD (setSv V st) st) := by
  have := (RO.sv V st).sd st
  rw [h.sd] at this
  exact this
theorem outRO {V2 : Nat → Nat → Int32} {n : Nat} {K : Nat → Nat} {T B Y G : Nat} {st : Nat × Nat × Nat × Bool} (ha : A2 V2 n K st) (hn : n ≤ 9) (a2 : Sok n st) (hB : KB n K T B Y G) {b f : Nat} (hb : 1 ≤ b) (hb2 : b ≤ 99) (hf : f < n) : ∃ W2, (∀ L2, f_X5_outBy V2 L2 (nI f) (nI b) = some (outS n T B Y G st f b, W2, L2)) ∧ RO V2 W2 := by
  cases hc : canB st.1 B with
  | false =>
    refine ⟨V2, fun L2 => ?_, RO.rf V2⟩
    have hi := isCount_eq (L := L2) ha.2 hn a2 hB
    rw [ha.sd, hc] at hi
    unfold f_X5_outBy outS
    rw [hi, hc]
    rfl
  | true =>
    refine ⟨setD (setSv V2 st) st, fun L2 => ?_, ha.svo⟩
    have hi := isCount_eq (L := L2) ha.2 hn a2 hB
    have hsv := save_eq V2 L2 st
    rw [ha.sd] at hi hsv
    unfold f_X5_outBy outS
    rw [hi, hc]
    simp only [bd1]
    rw [if_neg (show ¬ bz true = 0 by decide), hsv]
    obtain ⟨I, S, f2, o⟩ := st
    show (bd3 (f_X5_goCount (up2 (setD (setSv V2 (I, S, f2, o)) (I, S, f2, o)) 0 7 (nI f)) L2 (nI b)) fun r_5 V_6 L_7 => bd2 (f_X5_load V_6 L_7) fun V_8 L_9 => some (r_5, V_8, L_9)) = _
    rw [setD_7, goCount_eq (st := (I, S, f, o)) ha.2.sv hn ⟨a2.1, a2.2.1, hf⟩ hB hb hb2 hc]
    show (bd2 (f_X5_load (setD (setSv V2 (I, S, f2, o)) _) L2) fun V_8 L_9 => some (nI _, V_8, L_9)) = _
    rw [load_eq]
    rfl
section
variable {n : Nat} {K : Nat → Nat} {T B Y G : Nat} {st : Nat × Nat × Nat × Bool}
theorem tally_loop (hn : n ≤ 8) (a2 : Sok n st) (hB : KB n K T B Y G) (hc : canB st.1 B = true) {f X : Nat} (hf : f < n) (hX : X < 2 ^ 24) :
    ∀ (m fuel fuel2 b M : Nat) (t : Nat → Nat) (V : Nat → Nat → Int32) (L : Nat → Int64) (V2 : Nat → Nat → Int32), CiS (V 6) n T B Y G st → A2 V2 n K st → (∀ i, i < 8 → V 19 i = nI (t i) ∧ V2 35 i = nI (t i) ∧ t i ≤ b) → M ≤ b → b + m = 24 → m < fuel → m < fuel2 →
      ∃ M' W W2, M' ≤ 24 ∧ f_X1_mostLeft_29 (nI f) (nI X) fuel V L (nI M) (nI (b + 1)) = some (nI M', W, L) ∧ (∀ L2, f_X5_worstFrom_26 (nI f) (nI X) fuel2 V2 L2 (nI M) (nI (b + 1)) = some (nI M', W2, L2)) ∧ FQ V W ∧ RF V2 W2 := by
  intro m
  induction m with
  | zero =>
    intro fuel fuel2 b M t V L V2 hC hA ht hM hb hfu hfu2
    obtain ⟨g, rfl⟩ : ∃ g, fuel = g + 1 := ⟨fuel - 1, by omega⟩
    obtain ⟨g2, rfl⟩ : ∃ g, fuel2 = g + 1 := ⟨fuel2 - 1, by omega⟩
    refine ⟨M, V, V2, by omega, ?_, fun L2 => ?_, FQ.rf V, RF.rf V2⟩
    · rw [f_X1_mostLeft_29, if_pos (show (24 : Int32) < nI (b + 1) from nI_lt (a := 24) (by omega) (by omega))]
    · rw [f_X5_worstFrom_26, if_pos (show (24 : Int32) < nI (b + 1) from nI_lt (a := 24) (by omega) (by omega))]
  | succ m ih =>
    intro fuel fuel2 b M t V L V2 hC hA ht hM hb hfu hfu2
    obtain ⟨g, rfl⟩ : ∃ g, fuel = g + 1 := ⟨fuel - 1, by omega⟩
    obtain ⟨g2, rfl⟩ : ∃ g, fuel2 = g + 1 := ⟨fuel2 - 1, by omega⟩
    have e24 : ¬ (24 : Int32) < nI (b + 1) := nI_nlt (b := b + 1) (a := 24) (by omega) (by decide)
    by_cases hbit : X.testBit b = true
    · obtain ⟨W, o1, o2⟩ := outC (L := L) (show n ≤ 9 by omega) (show 1 ≤ b + 1 by omega) (by omega) hC a2 hf
      obtain ⟨W2, p1, p2⟩ := outRO hA (show n ≤ 9 by omega) a2 hB (show 1 ≤ b + 1 by omega) (by omega) hf
      have ho : outS n T B Y G st f (b + 1) = nI (cnt n T B Y G (st.1, st.2.1, f, st.2.2.2) (b + 1)).1 := by unfold outS; rw [hc]; rfl
      have hlt : (cnt n T B Y G (st.1, st.2.1, f, st.2.2.2) (b + 1)).1 < n := (cnt_ok (st := (st.1, st.2.1, f, st.2.2.2)) ⟨a2.1, a2.2.1, hf⟩).1
      rw [ho] at o1 p1
      generalize (cnt n T B Y G (st.1, st.2.1, f, st.2.2.2) (b + 1)).1 = w at o1 p1 hlt
      have hw8 : w < 8 := by omega
      have w19 : W 19 = V 19 := o2 19 (by decide)
      have w35 : W2 35 = V2 35 := p2.2 35 (by decide)
      have hq := (ht w hw8).2.2
      have hM2 : imax (nI M) (nI (t w + 1)) = nI (if t w + 1 ≤ M then M else t w + 1) := by
        unfold imax
        by_cases hle : t w + 1 ≤ M
        · rw [if_neg (nI_nlt hle (by omega)), if_pos hle]
        · rw [if_pos (nI_lt (by omega) (by omega)), if_neg hle]
      have hb' : (if t w + 1 ≤ M then M else t w + 1) ≤ b + 1 := by
        split <;> omega
      have ht' : ∀ i, i < 8 → up2 W 19 w (nI (t w + 1)) 19 i = nI (if i = w then t w + 1 else t i) ∧ up2 W2 35 w (nI (t w + 1)) 35 i = nI (if i = w then t w + 1 else t i) ∧ (if i = w then t w + 1 else t i) ≤ b + 1 := by
        intro i hi
        obtain ⟨q1, q2, q3⟩ := ht i hi
        rw [up2_at, up2_at, if_pos rfl, if_pos rfl, w19, w35]
        by_cases e : i = w
        · rw [if_pos e, if_pos e, if_pos e]
          exact ⟨rfl, rfl, by omega⟩
        · rw [if_neg e, if_neg e, if_neg e]
          exact ⟨q1, q2, by omega⟩
      have hC' : CiS (up2 W 19 w (nI (t w + 1)) 6) n T B Y G st := by
        rw [show up2 W 19 w (nI (t w + 1)) 6 = W 6 from rfl, o2 6 (by decide)]
        exact hC
      obtain ⟨M', U, U2, i1, i2, i3, i4, i5⟩ := ih g g2 (b + 1) (if t w + 1 ≤ M then M else t w + 1) (fun i => if i = w then t w + 1 else t i) (up2 W 19 w (nI (t w + 1))) L (up2 W2 35 w (nI (t w + 1))) hC' ((hA.rf p2.rF).rf (RF.up35 W2 w _)) ht' hb' (by omega) (by omega) (by omega)
      refine ⟨M', U, U2, i1, ?_, fun L2 => ?_, (o2.fq.tr (FQ.up19 W w _)).tr i4, (p2.rF.tr (RF.up35 W2 w _)).tr i5⟩
      · rw [f_X1_mostLeft_29, if_neg e24, nI_pred, if_neg (by rw [ishr_0 (by omega) (by omega), hbit]; decide), o1]
        simp only [bd3]
        rw [if_neg (nI_pos (show w < 2 ^ 31 by omega)), if_neg (show ¬ (8 : Int32) ≤ nI w from nI_ge (b := 8) hw8 (by decide)), if_pos (ib_nI hw8 (by decide)), if_pos (ib_nI hw8 (by decide)), nI_clamp (by omega), w19, (ht w hw8).1, nI_1]
        simp only [bnd]
        rw [if_pos (ib_nI hw8 (by decide)), up2_at, if_pos rfl, if_pos rfl, hM2, nI_1]
        exact i2
      · rw [f_X5_worstFrom_26, if_neg e24, nI_pred, isIn_eq (by omega) (by omega), hbit, if_neg (show ¬ bz true = 0 by decide), p1 L2]
        simp only [bd3]
        rw [if_pos (ib_nI hw8 (by decide)), if_pos (ib_nI hw8 (by decide)), nI_clamp (by omega), w35, (ht w hw8).2.1, nI_1]
        simp only [bnd]
        rw [if_pos (ib_nI hw8 (by decide)), if_pos (ib_nI hw8 (by decide)), up2_at, if_pos rfl, if_pos rfl, nI_1]
        have i3' := i3 L2
        by_cases hle : t w + 1 ≤ M
        · rw [if_pos (nI_le hle (by omega))]
          rw [if_pos hle] at i3'
          exact i3'
        · rw [if_neg (nI_ge (show M < t w + 1 by omega) (by omega))]
          rw [if_neg hle] at i3'
          exact i3'
    · have hbit0 : X.testBit b = false := by simpa using hbit
      obtain ⟨M', U, U2, i1, i2, i3, i4, i5⟩ := ih g g2 (b + 1) M t V L V2 hC hA (fun i hi => ⟨(ht i hi).1, (ht i hi).2.1, by have := (ht i hi).2.2; omega⟩) (by omega) (by omega) (by omega) (by omega)
      refine ⟨M', U, U2, i1, ?_, fun L2 => ?_, i4, i5⟩
      · rw [f_X1_mostLeft_29, if_neg e24, nI_pred, if_pos (by rw [ishr_0 (by omega) (by omega), hbit0]), nI_1]
        exact i2
      · rw [f_X5_worstFrom_26, if_neg e24, nI_pred, isIn_eq (by omega) (by omega), hbit0, if_pos (show bz false = 0 from rfl), nI_1]
        exact i3 L2
theorem reset19 (x1 x2 : Int32) (L : Nat → Int64) : ∀ (m fuel j : Nat) (V : Nat → Nat → Int32), (∀ i, i < j → V 19 i = 0) → j + m = 8 → m < fuel →
    ∃ W, (∀ i, i < 8 → W 19 i = 0) ∧ FQ V W ∧ f_X1_mostLeft_2 x1 x2 fuel V L (nI j) = f_X1_mostLeft_29 x1 x2 20000 W L 0 1 := by
  intro m
  induction m with
  | zero =>
    intro fuel j V h hj hf
    obtain ⟨g, rfl⟩ : ∃ g, fuel = g + 1 := ⟨fuel - 1, by omega⟩
    refine ⟨V, fun i hi => h i (by omega), FQ.rf V, ?_⟩
    rw [f_X1_mostLeft_2, if_pos (show (8 : Int32) ≤ nI j from nI_le (a := 8) (by omega) (by omega))]
  | succ m ih =>
    intro fuel j V h hj hf
    obtain ⟨g, rfl⟩ : ∃ g, fuel = g + 1 := ⟨fuel - 1, by omega⟩
    obtain ⟨W, w1, w2, w3⟩ := ih g (j + 1) (up2 V 19 j 0) (fun i hi => by
      rw [up2_at, if_pos rfl]
      by_cases e : i = j
      · rw [if_pos e]
      · rw [if_neg e]; exact h i (by omega)) (by omega) (by omega)
    refine ⟨W, w1, (FQ.up19 V j 0).tr w2, ?_⟩
    rw [f_X1_mostLeft_2, if_neg (show ¬ (8 : Int32) ≤ nI j from nI_ge (b := 8) (by omega) (by decide)), if_pos (ib_nI (show j < 8 by omega) (by decide)), nI_clamp (by omega), nI_1]
    exact w3
theorem reset35 (x1 x2 : Int32) : ∀ (m fuel j : Nat) (V : Nat → Nat → Int32), (∀ i, i < j → V 35 i = 0) → j + m = 8 → m < fuel →
    ∃ W, (∀ i, i < 8 → W 35 i = 0) ∧ RF V W ∧ ∀ L, f_X5_worstFrom_2 x1 x2 fuel V L (nI j) = f_X5_worstFrom_26 x1 x2 20000 W L 0 1 := by
  intro m
  induction m with
  | zero =>
    intro fuel j V h hj hf
    obtain ⟨g, rfl⟩ : ∃ g, fuel = g + 1 := ⟨fuel - 1, by omega⟩
    refine ⟨V, fun i hi => h i (by omega), RF.rf V, fun L => ?_⟩
    rw [f_X5_worstFrom_2, if_pos (show (8 : Int32) ≤ nI j from nI_le (a := 8) (by omega) (by omega))]
  | succ m ih =>
    intro fuel j V h hj hf
    obtain ⟨g, rfl⟩ : ∃ g, fuel = g + 1 := ⟨fuel - 1, by omega⟩
    obtain ⟨W, w1, w2, w3⟩ := ih g (j + 1) (up2 V 35 j 0) (fun i hi => by
      rw [up2_at, if_pos rfl]
      by_cases e : i = j
      · rw [if_pos e]
      · rw [if_neg e]; exact h i (by omega)) (by omega) (by omega)
    refine ⟨W, w1, (RF.up35 V j 0).tr w2, fun L => ?_⟩
    rw [f_X5_worstFrom_2, if_neg (show ¬ (8 : Int32) ≤ nI j from nI_ge (b := 8) (by omega) (by decide)), if_pos (ib_nI (show j < 8 by omega) (by decide)), nI_clamp (by omega), nI_1]
    exact w3 L
theorem tally_both (hn : n ≤ 8) (a2 : Sok n st) (hB : KB n K T B Y G) (hc : canB st.1 B = true) {f X : Nat} (hf : f < n) (hX : X < 2 ^ 24) {V : Nat → Nat → Int32} {L : Nat → Int64} {V2 : Nat → Nat → Int32} (hC : CiS (V 6) n T B Y G st) (hA : A2 V2 n K st) :
    ∃ M W W2, M ≤ 24 ∧ f_X1_mostLeft V L (nI f) (nI X) = some (nI M, W, L) ∧ (∀ L2, f_X5_worstFrom V2 L2 (nI f) (nI X) = some (nI M, W2, L2)) ∧ FQ V W ∧ RF V2 W2 := by
  obtain ⟨W, w1, w2, w3⟩ := reset19 (nI f) (nI X) L 8 20000 0 V (fun i hi => by omega) (by omega) (by omega)
  obtain ⟨U, u1, u2, u3⟩ := reset35 (nI f) (nI X) 8 20000 0 V2 (fun i hi => by omega) (by omega) (by omega)
  obtain ⟨M, W', U', i1, i2, i3, i4, i5⟩ := tally_loop hn a2 hB hc hf hX 24 20000 20000 0 0 (fun _ => 0) W L U (by rw [w2 6 (by decide) (by decide) (by decide)]; exact hC) (hA.rf u2) (fun i hi => ⟨w1 i hi, u1 i hi, by omega⟩) (by omega) (by omega) (by omega) (by omega)
  refine ⟨M, W', U', i1, ?_, fun L2 => ?_, w2.tr i4, u2.tr i5⟩
  · exact w3.trans i2
  · exact (u3 L2).trans (i3 L2)
theorem tell_loop (hn : n ≤ 8) (a2 : Sok n st) (hB : KB n K T B Y G) (hc : canB st.1 B = true) {X : Nat} (hX : X < 2 ^ 24) (hX0 : X ≠ 0) :
    ∀ (m fuel fuel2 j u u2 : Nat) (x2 : Int32) (V : Nat → Nat → Int32) (L : Nat → Int64) (V2 : Nat → Nat → Int32), CiS (V 6) n T B Y G st → A2 V2 n K st → ((u = u2 ∧ u ≤ 24) ∨ (u = 25 ∧ u2 = 268435456)) → j + m = n → m < fuel → m < fuel2 →
      ∃ r W W2, f_X1_tellingStart_27 (nI X) fuel V L x2 (nI u) (nI j) = some (r, W, L) ∧ (∀ L2, f_X5_fromNow_14 (nI X) fuel2 V2 L2 x2 (nI u2) (nI j) = some (r, W2, L2)) ∧ FQ V W ∧ RF V2 W2 := by
  intro m
  induction m with
  | zero =>
    intro fuel fuel2 j u u2 x2 V L V2 hC hA hu hj hf hf2
    obtain ⟨g, rfl⟩ : ∃ g, fuel = g + 1 := ⟨fuel - 1, by omega⟩
    obtain ⟨g2, rfl⟩ : ∃ g, fuel2 = g + 1 := ⟨fuel2 - 1, by omega⟩
    refine ⟨x2, V, V2, ?_, fun L2 => ?_, FQ.rf V, RF.rf V2⟩
    · rw [f_X1_tellingStart_27, hC.1, if_pos (nI_le (by omega) (by omega))]
    · rw [f_X5_fromNow_14, hA.2.1, if_pos (nI_le (by omega) (by omega))]
  | succ m ih =>
    intro fuel fuel2 j u u2 x2 V L V2 hC hA hu hj hf hf2
    obtain ⟨g, rfl⟩ : ∃ g, fuel = g + 1 := ⟨fuel - 1, by omega⟩
    obtain ⟨g2, rfl⟩ : ∃ g, fuel2 = g + 1 := ⟨fuel2 - 1, by omega⟩
    have hjn : j < n := by omega
    obtain ⟨M, W, W2, i1, i2, i3, i4, i5⟩ := tally_both (L := L) hn a2 hB hc hjn hX hC hA
    have hC' : CiS (W 6) n T B Y G st := by rw [i4 6 (by decide) (by decide) (by decide)]; exact hC
    have hA' := hA.rf i5
    have hi : ∀ L2, f_X5_isCount V2 L2 = some (bz true) := fun L2 => by
      have := isCount_eq (L := L2) hA.2 (show n ≤ 9 by omega) a2 hB
      rw [hA.sd, hc] at this
      exact this
    by_cases hle : u ≤ M
    · obtain ⟨r, U, U2, k1, k2, k3, k4⟩ := ih g g2 (j + 1) u u2 x2 W L W2 hC' hA' hu (by omega) (by omega) (by omega)
      refine ⟨r, U, U2, ?_, fun L2 => ?_, i4.tr k3, i5.tr k4⟩
      · rw [f_X1_tellingStart_27, hC.1, if_neg (nI_ge hjn (by omega)), i2]
        simp only [bd3]
        rw [if_pos (nI_le hle (by omega)), nI_1]
        exact k1
      · rw [f_X5_fromNow_14, hA.2.1, if_neg (nI_ge hjn (by omega)), if_neg (nI_ne0 (by omega) (by omega)), hi L2]
        simp only [bd1]
        rw [if_neg (show ¬ bz true = 0 by decide), i3 L2]
        simp only [bd3, f_X5_fromNow_56]
        rw [if_pos (nI_le (show u2 ≤ M by omega) (by omega)), if_pos (nI_le (show u2 ≤ M by omega) (by omega)), nI_1]
        exact k2 L2
    · obtain ⟨r, U, U2, k1, k2, k3, k4⟩ := ih g g2 (j + 1) M M (nI j) W L W2 hC' hA' (Or.inl ⟨rfl, i1⟩) (by omega) (by omega) (by omega)
      refine ⟨r, U, U2, ?_, fun L2 => ?_, i4.tr k3, i5.tr k4⟩
      · rw [f_X1_tellingStart_27, hC.1, if_neg (nI_ge hjn (by omega)), i2]
        simp only [bd3]
        rw [if_neg (nI_ge (show M < u by omega) (by omega)), nI_1]
        exact k1
      · rw [f_X5_fromNow_14, hA.2.1, if_neg (nI_ge hjn (by omega)), if_neg (nI_ne0 (by omega) (by omega)), hi L2]
        simp only [bd1]
        rw [if_neg (show ¬ bz true = 0 by decide), i3 L2]
        simp only [bd3, f_X5_fromNow_56]
        rw [if_neg (nI_ge (show M < u2 by omega) (by omega)), if_neg (nI_ge (show M < u2 by omega) (by omega)), nI_1]
        exact k2 L2
end
/-- FROM, as the class makes it of both its parts -/
def fromC (V : Nat → Nat → Int32) (L : Nat → Int64) : Option (Int32 × (Nat → Nat → Int32) × (Nat → Int64)) := bd3 (f_X1_lengthBits V L) fun r_1 V_2 L_3 => bd3 (f_X1_tellingStart V_2 L_3 r_1) fun r_4 V_5 L_6 => some (r_4, V_5, L_6)
section
variable {N s : Nat} {q : Nat → Nat} {ρ n : Nat} {K : Nat → Nat} {T B Y G : Nat} {st : Nat × Nat × Nat × Bool} {nv : Nat} {bt : Nat → Nat} {ct sn : Nat} {sf so : Nat → Nat} {V : Nat → Nat → Int32} {L : Nat → Int64} {V2 : Nat → Nat → Int32}
theorem from_lk (h : RelX N s q ρ n K T B Y G st nv bt ct sn sf so V L V2) (h0 : 0 < n) : Lk V V2 (fromC V L) (fun L2 => f_X5_fromNow V2 L2) := by
  obtain ⟨X, W, W2, i1, i2, i3, i4, i5⟩ := len_both h h0
  have ha := h.a2.rf i5
  obtain ⟨h1, h2, h3, h4, h5, h6, h7, h8, h9⟩ := h
  have hn := h7.le
  obtain ⟨a1, a2, a3⟩ := h7.ok h0
  have hC' : CiS (W 6) n T B Y G st := by rw [i4 6 (by decide)]; exact h3.1
  have hi : ∀ L2, f_X5_isCount W2 L2 = some (bz (canB st.1 B)) := fun L2 => by
    have := isCount_eq (L := L2) ha.2 (show n ≤ 9 by omega) a2 h3.2.2.2
    rw [ha.sd] at this
    exact this
  have hcc := canCount_eq hC'.2.2.1 hC'.2.2.2.2.2.1 (show n ≤ 9 by omega) a2.1
  have key : ∃ r U U2, f_X1_tellingStart W L (nI X) = some (r, U, L) ∧ (∀ L2, f_X5_fromNow_14 (nI X) 20000 W2 L2 (-1 : Int32) (268435456 : Int32) (0 : Int32) = some (r, U2, L2)) ∧ FQ W U ∧ RF W2 U2 := by
    by_cases hX0 : X = 0
    · subst hX0
      refine ⟨-1, W, W2, if_pos (by decide), fun L2 => ?_, FQ.rf W, RF.rf W2⟩
      rw [f_X5_fromNow_14, ha.2.1, if_neg (nI_nle h0 (by omega)), if_pos (by decide)]
    · cases hc : canB st.1 B with
      | false =>
        refine ⟨-1, W, W2, ?_, fun L2 => ?_, FQ.rf W, RF.rf W2⟩
        · unfold f_X1_tellingStart
          rw [if_neg (nI_ne0 (by omega) (by omega)), hcc, hc, if_pos (show bz false = 0 from rfl)]
        · rw [f_X5_fromNow_14, ha.2.1, if_neg (nI_nle h0 (by omega)), if_neg (nI_ne0 (by omega) (by omega)), hi L2, hc]
          rfl
      | true =>
        obtain ⟨r, U, U2, k1, k2, k3, k4⟩ := tell_loop hn a2 h3.2.2.2 hc i1 hX0 n 20000 20000 0 25 268435456 (-1) W L W2 hC' ha (Or.inr ⟨rfl, rfl⟩) (by omega) (by omega) (by omega)
        refine ⟨r, U, U2, ?_, k2, k3, k4⟩
        unfold f_X1_tellingStart
        rw [if_neg (nI_ne0 (by omega) (by omega)), hcc, hc, if_neg (show ¬ bz true = 0 by decide)]
        exact k1
  obtain ⟨r, U, U2, k1, k2, k3, k4⟩ := key
  refine ⟨r, U, L, U2, ?_, fun L2 => ?_, i4.fc.tr k3.fc, i5.tr k4, (h9.f16 i4).fq k3⟩
  · unfold fromC
    rw [i2]
    simp only [bd3]
    rw [k1]
  · show f_X5_fromNow V2 L2 = _
    unfold f_X5_fromNow
    rw [i3 L2]
    exact k2 L2
end
theorem sim_from : Sim_from Rel := by
  rintro N V L V2 L2 hN ⟨s, q, ρ, n, K, T, B, Y, G, st, nv, bt, ct, sn, sf, so, h⟩
  have h3 := h.2.2.1
  have hn := h.2.2.2.2.2.2.1.le
  unfold f_X4_from f_X5_from
  rw [hasRing_eq h3.1.1 (by omega), h3.2.2.1.1]
  by_cases h0 : 0 < n
  · rw [decide_eq_true h0, if_neg (show ¬ bz true = 0 by decide), if_neg (nI_ne0 h0 (by omega))]
    obtain ⟨r, W, L1, W2, k1, k2, k3⟩ := (from_lk h h0).rel h
    have k2' : f_X5_fromNow V2 L2 = some (r, W2, L2) := k2 L2
    exact ⟨r, W, L1, W2, L2, k1, by rw [k2']; rfl, k3.up L2⟩
  · have hz : n = 0 := by omega
    subst hz
    exact ⟨_, V, L, V2, L2, if_pos rfl, if_pos rfl, h.up L2⟩
