theorem outR {V2 : Nat → Nat → Int32} {n : Nat} {K : Nat → Nat} {T B Y G : Nat} {st : Nat × Nat × Nat × Bool} (ha : A2 V2 n K st) (hn : n ≤ 9) (a2 : Sok n st) (hB : KB n K T B Y G) {b f : Nat} (hb : 1 ≤ b) (hb2 : b ≤ 99) (hf : f < n) : ∃ W2, (∀ L2, f_X5_outBy V2 L2 (nI f) (nI b) = some (outS n T B Y G st f b, W2, L2)) ∧ RF V2 W2 := by
  cases hc : canB st.1 B with
  | false =>
    refine ⟨V2, fun L2 => ?_, RF.rf V2⟩
    have hi := isCount_eq (L := L2) ha.2 hn a2 hB
    rw [ha.sd, hc] at hi
    unfold f_X5_outBy outS
    rw [hi, hc]
    rfl
  | true =>
    refine ⟨setD (setSv V2 st) st, fun L2 => ?_, ha.svd⟩
    have hi := isCount_eq (L := L2) ha.2 hn a2 hB
    have hsv := save_eq V2 L2 st
    rw [ha.sd] at hi hsv
    unfold f_X5_outBy outS
    rw [hi, hc]
    simp only [bd1]
    rw [if_neg (show ¬ bz true = 0 by decide), hsv]
    obtain ⟨I, S, f2, o⟩ := st
    show (bd3 (f_X5_goCount (up2 (setD (setSv V2 (I, S, f2, o)) (I, S, f2, o)) 0 7 (nI f)) L2 (nI b)) fun r_5 V_6 L_7 => bd2 (f_X5_load V_6 L_7) fun V_8 L_9 => some (r_5, V_8, L_9)) = _
    rw [setD_7, goCount_eq (st := (I, S, f, o)) ha.2.sv hn ⟨a2.1, a2.2.1, hf⟩ hB hb hb2 hc]
    show (bd2 (f_X5_load (setD (setSv V2 (I, S, f2, o)) _) L2) fun V_8 L_9 => some (nI _, V_8, L_9)) = _
    rw [load_eq]
    rfl
theorem outC {V : Nat → Nat → Int32} {L : Nat → Int64} {n T B Y G from_ beats : Nat} {st : Nat × Nat × Nat × Bool} (hn : n ≤ 9) (hb : 1 ≤ beats) (hb2 : beats ≤ 99) (h : CiS (V 6) n T B Y G st) (hs : Sok n st) (hf : from_ < n) : ∃ W, f_X1_outBy V L (nI from_) (nI beats) = some (outS n T B Y G st from_ beats, W, L) ∧ F16 V W := by
  obtain ⟨c2, e⟩ := outBy_cls (L := L) hn hb hb2 h hs hf
  exact ⟨_, e, F16.st V c2⟩
theorem begin_loop {n : Nat} {K : Nat → Nat} {T B Y G : Nat} {st : Nat × Nat × Nat × Bool} {c : Int32} {b : Nat} (hn : n ≤ 9) (a2 : Sok n st) (hB : KB n K T B Y G) (hb : 1 ≤ b) (hb2 : b ≤ 99) :
    ∀ (m fuel fuel2 j : Nat) (x3 : Int32) (V : Nat → Nat → Int32) (L : Nat → Int64) (V2 : Nat → Nat → Int32), CiS (V 6) n T B Y G st → A2 V2 n K st → j + m = n → m < fuel → m < fuel2 →
      ∃ r W W2, f_X1_startsFor_5 c (nI b) fuel V L x3 (nI j) = some (r, W, L) ∧ (∀ L2, f_X5_beginNow_5 c (nI b) fuel2 V2 L2 x3 (nI j) = some (r, W2, L2)) ∧ F16 V W ∧ RF V2 W2 := by
  intro m
  induction m with
  | zero =>
    intro fuel fuel2 j x3 V L V2 hC hA hj hf hf2
    obtain ⟨g, rfl⟩ : ∃ g, fuel = g + 1 := ⟨fuel - 1, by omega⟩
    obtain ⟨g2, rfl⟩ : ∃ g, fuel2 = g + 1 := ⟨fuel2 - 1, by omega⟩
    refine ⟨x3, V, V2, ?_, fun L2 => ?_, F16.rf V, RF.rf V2⟩
    · rw [f_X1_startsFor_5, hC.1, if_pos (nI_le (by omega) (by omega))]
    · rw [f_X5_beginNow_5, hA.2.1, if_pos (nI_le (by omega) (by omega))]
  | succ m ih =>
    intro fuel fuel2 j x3 V L V2 hC hA hj hf hf2
    obtain ⟨g, rfl⟩ : ∃ g, fuel = g + 1 := ⟨fuel - 1, by omega⟩
    obtain ⟨g2, rfl⟩ : ∃ g, fuel2 = g + 1 := ⟨fuel2 - 1, by omega⟩
    have hjn : j < n := by omega
    have hI9 := lt_pow hn a2.1
    have e1 := cisIn_eq hC.2.2.2.2.2.1 a2.1 hn (show j < 31 by omega)
    have e2 : f_X5_isIn (V2 0 5) (nI j) = bz (st.1.testBit j) := by rw [hA.1.1, isIn_eq (by omega) (by omega)]
    cases hb0 : st.1.testBit j with
    | false =>
      rw [hb0] at e1 e2
      obtain ⟨r, W, W2, k1, k2, k3, k4⟩ := ih g g2 (j + 1) x3 V L V2 hC hA (by omega) (by omega) (by omega)
      refine ⟨r, W, W2, ?_, fun L2 => ?_, k3, k4⟩
      · rw [f_X1_startsFor_5, hC.1, if_neg (nI_ge hjn (by omega)), e1, if_pos (show bz false = 0 from rfl), nI_1, k1]
      · rw [f_X5_beginNow_5, hA.2.1, if_neg (nI_ge hjn (by omega)), e2, if_pos (show bz false = 0 from rfl), nI_1, k2 L2]
    | true =>
      rw [hb0] at e1 e2
      obtain ⟨c1, t1, t2⟩ := takeAll_eq (c := V 16) hC
      obtain ⟨I, S, f, o⟩ := st
      have t3 : CiS (upd c1 7 (nI j)) n T B Y G (I, S, j, o) := Ci.up7 (show Ci c1 n T B Y G I S f o from t2)
      have a3 : Sok n (I, S, j, o) := ⟨a2.1, a2.2.1, hjn⟩
      obtain ⟨c2, d1, d2⟩ := countDown_eq hn hb hb2 t3 a3
      have hd := fun L2 => lastNow_eq (L := L2) (st := (I, S, j, o)) (V := setSv V2 (I, S, f, o)) hA.2.sv hn hB hb hb2 a3
      generalize hval : one (down n T B Y G b n (I, S, j, o)).1 = val at d1 hd
      have hsv : ∀ L2, f_X5_save V2 L2 = some (setD (setSv V2 (I, S, f, o)) (I, S, f, o), L2) := fun L2 => by
        have := save_eq V2 L2 (I, S, f, o)
        rw [hA.sd] at this
        exact this
      have hrf : RF V2 (setD (setSv V2 (I, S, f, o)) (I, S, f, o)) := hA.svd
      have step : ∀ y3 : Int32, ∃ r W W2, f_X1_startsFor_5 c (nI b) g (setc V 16 c2) L y3 (nI (j + 1)) = some (r, W, L) ∧ (∀ L2, f_X5_beginNow_5 c (nI b) g2 (setD (setSv V2 (I, S, f, o)) (I, S, f, o)) L2 y3 (nI (j + 1)) = some (r, W2, L2)) ∧ F16 V W ∧ RF V2 W2 := by
        intro y3
        obtain ⟨r, W, W2, k1, k2, k3, k4⟩ := ih g g2 (j + 1) y3 (setc V 16 c2) L (setD (setSv V2 (I, S, f, o)) (I, S, f, o)) hC (hA.rf hrf) (by omega) (by omega) (by omega)
        exact ⟨r, W, W2, k1, k2, (F16.st V c2).tr k3, hrf.tr k4⟩
      have hcl : ∀ y3 : Int32, ∀ y4 : Int32, f_X1_startsFor_5 c (nI b) (g + 1) V L x3 (nI j) = if val = c then f_X1_startsFor_5 c (nI b) g (setc V 16 c2) L (x3 ||| ishl (1 : Int32) (nI j)) (nI (j + 1)) else f_X1_startsFor_5 c (nI b) g (setc V 16 c2) L (x3 ||| (0 : Int32)) (nI (j + 1)) := by
        intro _ _
        rw [f_X1_startsFor_5, hC.1, if_neg (nI_ge hjn (by omega)), e1, if_neg (show ¬ bz true = 0 by decide), t1]
        simp only [bd1, bnd, setc_at, up2, setc_setc, d1, bd2, nI_1]
      have hre : ∀ L2, f_X5_beginNow_5 c (nI b) (g2 + 1) V2 L2 x3 (nI j) = if val = c then f_X5_beginNow_5 c (nI b) g2 (setD (setSv V2 (I, S, f, o)) (I, S, f, o)) L2 (x3 ||| ishl (1 : Int32) (nI j)) (nI (j + 1)) else f_X5_beginNow_5 c (nI b) g2 (setD (setSv V2 (I, S, f, o)) (I, S, f, o)) L2 (x3 ||| (0 : Int32)) (nI (j + 1)) := by
        intro L2
        rw [f_X5_beginNow_5, hA.2.1, if_neg (nI_ge hjn (by omega)), e2, if_neg (show ¬ bz true = 0 by decide), hsv L2]
        simp only [bd2, bnd]
        rw [setD_7, hd L2]
        simp only [bd3, f_X5_beginNow_56, load_eq, bd2, nI_1]
      by_cases hv : val = c
      · obtain ⟨r, W, W2, k1, k2, k3, k4⟩ := step (x3 ||| ishl (1 : Int32) (nI j))
        exact ⟨r, W, W2, by rw [hcl 0 0, if_pos hv, k1], fun L2 => by rw [hre L2, if_pos hv, k2 L2], k3, k4⟩
      · obtain ⟨r, W, W2, k1, k2, k3, k4⟩ := step (x3 ||| (0 : Int32))
        exact ⟨r, W, W2, by rw [hcl 0 0, if_neg hv, k1], fun L2 => by rw [hre L2, if_neg hv, k2 L2], k3, k4⟩
theorem begin_lk {N s : Nat} {q : Nat → Nat} {ρ n : Nat} {K : Nat → Nat} {T B Y G : Nat} {st : Nat × Nat × Nat × Bool} {nv : Nat} {bt : Nat → Nat} {ct sn : Nat} {sf so : Nat → Nat} {V : Nat → Nat → Int32} {L : Nat → Int64} {V2 : Nat → Nat → Int32} (h : RelX N s q ρ n K T B Y G st nv bt ct sn sf so V L V2) (h0 : 0 < n) {b : Nat} (hb : 1 ≤ b) (hb2 : b ≤ 99) (c : Int32) : Lk V V2 (f_X1_startsFor V L c (nI b)) (fun L2 => f_X5_beginNow V2 L2 c (nI b)) := by
  have ha := h.a2
  obtain ⟨h1, h2, h3, h4, h5, h6, h7, h8, h9⟩ := h
  have hn := h7.le
  obtain ⟨a1, a2, a3⟩ := h7.ok h0
  obtain ⟨r, W, W2, k1, k2, k3, k4⟩ := begin_loop (c := c) (show n ≤ 9 by omega) a2 h3.2.2.2 hb hb2 n 20000 20000 0 0 V L V2 h3.1 ha (by omega) (by omega) (by omega)
  exact ⟨r, W, L, W2, k1, k2, k3.fc, k4, h9.f16 k3⟩
theorem sim_begin : Sim_begin Rel := by
  rintro N V L V2 L2 x1 x2 hN ⟨s, q, ρ, n, K, T, B, Y, G, st, nv, bt, ct, sn, sf, so, h⟩
  have h3 := h.2.2.1
  have hn := h.2.2.2.2.2.2.1.le
  unfold f_X4_begin f_X5_begin f_X5_areBeats
  rw [hasChild_eq h3.1.1 (by omega), isChild_eq h3.2.2.1.1 (by omega), isBeats_eq]
  by_cases hx : ib x1 n = true
  · rw [hx, if_neg (show ¬ bz true = 0 by decide), if_neg (show ¬ bz true = 0 by decide)]
    by_cases hb : f_X5_within x2 1 99 = 0
    · exact ⟨_, V, L, V2, L2, if_pos hb, if_pos hb, h.up L2⟩
    · obtain ⟨b, hb1, hb2, rfl⟩ := beats_of hb
      rw [if_neg hb, if_neg hb]
      obtain ⟨r, W, L1, W2, k1, k2, k3⟩ := (begin_lk h (ib_pos hx) hb1 hb2 x1).rel h
      have k2' : f_X5_beginNow V2 L2 x1 (nI b) = some (r, W2, L2) := k2 L2
      exact ⟨r, W, L1, W2, L2, by rw [k1]; rfl, by rw [k2']; rfl, k3.up L2⟩
  · have hx0 : ib x1 n = false := by simpa using hx
    rw [hx0]
    exact ⟨_, V, L, V2, L2, if_pos rfl, if_pos rfl, h.up L2⟩
