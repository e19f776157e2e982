/-! looks: both sides answer alike, and nothing but what serves for it has changed -/
def Lk (V V2 : Nat → Nat → Int32) (f : Option (Int32 × (Nat → Nat → Int32) × (Nat → Int64))) (g : (Nat → Int64) → Option (Int32 × (Nat → Nat → Int32) × (Nat → Int64))) : Prop := ∃ (r : Int32) (W : Nat → Nat → Int32) (L1 : Nat → Int64) (W2 : Nat → Nat → Int32), f = some (r, W, L1) ∧ (∀ L2, g L2 = some (r, W2, L2)) ∧ FC V W ∧ RF V2 W2 ∧ RCa W L1
def A2 (V : Nat → Nat → Int32) (n : Nat) (K : Nat → Nat) (st : Nat × Nat × Nat × Bool) : Prop := (V 0 5 = nI st.1 ∧ V 0 6 = nI st.2.1 ∧ V 0 7 = nI st.2.2.1 ∧ V 0 8 = bz st.2.2.2) ∧ Mb V n K
theorem A2.rf {V W : Nat → Nat → Int32} {n : Nat} {K : Nat → Nat} {st : Nat × Nat × Nat × Bool} (h : A2 V n K st) (g : RF V W) : A2 W n K st := by
  unfold A2 Mb
  rw [g.1 5 (by omega), g.1 6 (by omega), g.1 7 (by omega), g.1 8 (by omega), g.1 1 (by omega), g.2 4 (by omega) (by omega)]
  exact h
theorem A2.sd {V : Nat → Nat → Int32} {n : Nat} {K : Nat → Nat} {st : Nat × Nat × Nat × Bool} (h : A2 V n K st) : setD V st = V := setD_self h.1
theorem RF.sv (V : Nat → Nat → Int32) (st : Nat × Nat × Nat × Bool) : RF V (setSv V st) := by
  refine ⟨fun b hb => ?_, fun a ha hb => ?_⟩
  · unfold setSv
    rw [if_pos rfl, if_neg (by omega), if_neg (by omega), if_neg (by omega), if_neg (by omega)]
  · funext b
    unfold setSv
    rw [if_neg (by omega)]
theorem RF.sd {V W : Nat → Nat → Int32} (h : RF V W) (st : Nat × Nat × Nat × Bool) : RF (setD V st) (setD W st) := by
  refine ⟨fun b hb => ?_, fun a ha hb => ?_⟩
  · unfold setD
    rw [if_pos rfl, if_pos rfl, h.1 b hb]
  · funext b
    unfold setD
    rw [if_neg (by omega), if_neg (by omega), h.2 a ha hb]
theorem A2.svd {V : Nat → Nat → Int32} {n : Nat} {K : Nat → Nat} {st : Nat × Nat × Nat × Bool} (h : A2 V n K st) : RF V (setD (setSv V st) st) := by
  have := (RF.sv V st).sd st
  rw [h.sd] at this
  exact this
theorem Lk.rel {N s : Nat} {q : Nat → Nat} {ρ n : Nat} {K : Nat → Nat} {T B Y G : Nat} {st : Nat × Nat × Nat × Bool} {nv : Nat} {bt : Nat → Nat} {ct sn : Nat} {sf so : Nat → Nat} {V : Nat → Nat → Int32} {L : Nat → Int64} {V2 : Nat → Nat → Int32} {f : Option (Int32 × (Nat → Nat → Int32) × (Nat → Int64))} {g : (Nat → Int64) → Option (Int32 × (Nat → Nat → Int32) × (Nat → Int64))} (hl : Lk V V2 f g) (h : RelX N s q ρ n K T B Y G st nv bt ct sn sf so V L V2) : ∃ (r : Int32) (W : Nat → Nat → Int32) (L1 : Nat → Int64) (W2 : Nat → Nat → Int32), f = some (r, W, L1) ∧ (∀ L2, g L2 = some (r, W2, L2)) ∧ RelX N s q ρ n K T B Y G st nv bt ct sn sf so W L1 W2 := by
  obtain ⟨r, W, L1, W2, e1, e2, h1, h2, h3⟩ := hl
  exact ⟨r, W, L1, W2, e1, e2, h.fr h1 h2 h3⟩
theorem RelX.a2 {N s : Nat} {q : Nat → Nat} {ρ n : Nat} {K : Nat → Nat} {T B Y G : Nat} {st : Nat × Nat × Nat × Bool} {nv : Nat} {bt : Nat → Nat} {ct sn : Nat} {sf so : Nat → Nat} {V : Nat → Nat → Int32} {L : Nat → Int64} {V2 : Nat → Nat → Int32} (h : RelX N s q ρ n K T B Y G st nv bt ct sn sf so V L V2) : A2 V2 n K st := ⟨h.2.2.1.2.1, h.2.2.1.2.2.1⟩
section
variable {N s : Nat} {q : Nat → Nat} {ρ n : Nat} {K : Nat → Nat} {T B Y G : Nat} {st : Nat × Nat × Nat × Bool} {nv : Nat} {bt : Nat → Nat} {ct sn : Nat} {sf so : Nat → Nat} {V : Nat → Nat → Int32} {L : Nat → Int64} {V2 : Nat → Nat → Int32}
theorem last_lk (h : RelX N s q ρ n K T B Y G st nv bt ct sn sf so V L V2) (h0 : 0 < n) {b : Nat} (hb : 1 ≤ b) (hb2 : b ≤ 99) : Lk V V2 (f_X1_leftBy V L (nI b)) (fun L2 => f_X5_lastBy V2 L2 (nI b)) := by
  have ha := h.a2
  obtain ⟨h1, h2, h3, h4, h5, h6, h7, h8, h9⟩ := h
  have hn := h7.le
  obtain ⟨a1, a2, a3⟩ := h7.ok h0
  obtain ⟨c2, e⟩ := leftBy_eq (L := L) (show n ≤ 9 by omega) hb hb2 h3.1 a2
  refine ⟨_, _, L, _, e, fun L2 => ?_, (F16.st V c2).fc, ha.svd, h9.f16 (F16.st V c2)⟩
  have := lastBy_eq (L := L2) ha.2 (show n ≤ 9 by omega) h3.2.2.2 hb hb2 a2
  rw [ha.sd] at this
  exact this
theorem out_lk (h : RelX N s q ρ n K T B Y G st nv bt ct sn sf so V L V2) (h0 : 0 < n) {b f : Nat} (hb : 1 ≤ b) (hb2 : b ≤ 99) (hf : f < n) : Lk V V2 (f_X1_outBy V L (nI f) (nI b)) (fun L2 => f_X5_outBy V2 L2 (nI f) (nI b)) := by
  have ha := h.a2
  obtain ⟨h1, h2, h3, h4, h5, h6, h7, h8, h9⟩ := h
  have hn := h7.le
  obtain ⟨a1, a2, a3⟩ := h7.ok h0
  obtain ⟨c2, e⟩ := outBy_cls (L := L) (show n ≤ 9 by omega) hb hb2 h3.1 a2 hf
  have key : ∃ W2, (∀ L2, f_X5_outBy V2 L2 (nI f) (nI b) = some (outS n T B Y G st f b, W2, L2)) ∧ RF V2 W2 := by
    cases hc : canB st.1 B with
    | false =>
      refine ⟨V2, fun L2 => ?_, RF.rf V2⟩
      have hi := isCount_eq (L := L2) ha.2 (show n ≤ 9 by omega) a2 h3.2.2.2
      rw [ha.sd, hc] at hi
      unfold f_X5_outBy outS
      rw [hi, hc]
      rfl
    | true =>
      refine ⟨setD (setSv V2 st) st, fun L2 => ?_, ha.svd⟩
      have hi := isCount_eq (L := L2) ha.2 (show n ≤ 9 by omega) a2 h3.2.2.2
      have hsv := save_eq V2 L2 st
      rw [ha.sd] at hi hsv
      unfold f_X5_outBy outS
      rw [hi, hc]
      simp only [bd1]
      rw [if_neg (show ¬ bz true = 0 by decide), hsv]
      obtain ⟨I, S, f2, o⟩ := st
      show (bd3 (f_X5_goCount (up2 (setD (setSv V2 (I, S, f2, o)) (I, S, f2, o)) 0 7 (nI f)) L2 (nI b)) fun r_5 V_6 L_7 => bd2 (f_X5_load V_6 L_7) fun V_8 L_9 => some (r_5, V_8, L_9)) = _
      rw [setD_7, goCount_eq (st := (I, S, f, o)) ha.2.sv (by omega) ⟨a2.1, a2.2.1, hf⟩ h3.2.2.2 hb hb2 hc]
      show (bd2 (f_X5_load (setD (setSv V2 (I, S, f2, o)) _) L2) fun V_8 L_9 => some (nI _, V_8, L_9)) = _
      rw [load_eq]
      rfl
  obtain ⟨W2, k1, k2⟩ := key
  exact ⟨_, _, L, W2, e, k1, (F16.st V c2).fc, k2, h9.f16 (F16.st V c2)⟩
theorem verse_lk (h : RelX N s q ρ n K T B Y G st nv bt ct sn sf so V L V2) {v w : Nat} (hv : v < nv) (hw : w ≤ 2) : Lk V V2 (f_X4_verse V L (nI v) (nI w)) (fun L2 => f_X5_verseNow V2 L2 (nI v) (nI w)) := by
  have h' := h
  obtain ⟨h1, h2, h3, h4, h5, h6, h7, h8, h9⟩ := h'
  have hn := h7.le
  have h0 : 0 < n := by
    rcases h7 with ⟨-, -, h0, -⟩ | ⟨h0, -⟩ <;> omega
  obtain ⟨a1, a2, a3⟩ := h7.ok h0
  obtain ⟨e1, e2, e3, e4⟩ := h4
  unfold f_X4_verse f_X5_verseNow
  rw [hasVerse_eq e1 e3, ib_nI hv (by omega), if_neg (show ¬ bz true = 0 by decide), if_pos (ib_nI (show v < 3 by omega) (by decide)), nI_clamp (by omega), (e4 v hv).1, h3.1.2.2.2.2.2.2.2.1]
  have e : w = 0 ∨ w = 1 ∨ w = 2 := by omega
  rcases e with e | e | e <;> subst e
  · rw [if_pos (show nI 0 = 0 by decide)]
    refine ⟨_, V, L, V2, rfl, fun L2 => ?_, FC.rf V, RF.rf V2, h9⟩
    show (if nI 0 = 0 then _ else _) = _
    rw [if_pos (show nI 0 = 0 by decide), if_pos (ib_nI (show v < 3 by omega) (by decide)), (e4 v hv).2.1]
  · rw [if_neg (show ¬ nI 1 = 0 by decide), if_pos (show nI 1 = 1 by decide)]
    obtain ⟨r, W, L1, W2, k1, k2, k3, k4, k5⟩ := out_lk h h0 (e4 v hv).2.2.1 (e4 v hv).2.2.2 a2.2.2
    refine ⟨r, W, L1, W2, by rw [k1]; rfl, fun L2 => ?_, k3, k4, k5⟩
    have k2' : f_X5_outBy V2 L2 (nI st.2.2.1) (nI (bt v)) = some (r, W2, L2) := k2 L2
    show (if nI 1 = 0 then _ else _) = _
    rw [if_neg (show ¬ nI 1 = 0 by decide), if_pos (show nI 1 = 1 by decide), if_pos (ib_nI (show v < 3 by omega) (by decide)), (e4 v hv).2.1, h3.2.1.2.2.1, k2']
    rfl
  · rw [if_neg (show ¬ nI 2 = 0 by decide), if_neg (show ¬ nI 2 = 1 by decide), if_pos (show nI 2 = 2 by decide)]
    obtain ⟨r, W, L1, W2, k1, k2, k3, k4, k5⟩ := last_lk h h0 (e4 v hv).2.2.1 (e4 v hv).2.2.2
    refine ⟨r, W, L1, W2, by rw [k1]; rfl, fun L2 => ?_, k3, k4, k5⟩
    have k2' : f_X5_lastBy V2 L2 (nI (bt v)) = some (r, W2, L2) := k2 L2
    show (if nI 2 = 0 then _ else _) = _
    rw [if_neg (show ¬ nI 2 = 0 by decide), if_neg (show ¬ nI 2 = 1 by decide), if_pos (ib_nI (show v < 3 by omega) (by decide)), (e4 v hv).2.1, k2']
    rfl
end
theorem sim_last : Sim_last Rel := by
  rintro N V L V2 L2 x1 hN ⟨s, q, ρ, n, K, T, B, Y, G, st, nv, bt, ct, sn, sf, so, h⟩
  have h3 := h.2.2.1
  have hn := h.2.2.2.2.2.2.1.le
  unfold f_X4_last f_X5_last f_X5_areBeats
  rw [isBeats_eq, hasRing_eq h3.1.1 (by omega), h3.2.2.1.1]
  by_cases hb : f_X5_within x1 1 99 = 0
  · exact ⟨_, V, L, V2, L2, if_pos hb, if_pos hb, h.up L2⟩
  · obtain ⟨b, hb1, hb2, rfl⟩ := beats_of hb
    rw [if_neg hb, if_neg hb]
    by_cases h0 : 0 < n
    · rw [decide_eq_true h0, if_neg (show ¬ bz true = 0 by decide), if_neg (nI_ne0 h0 (by omega))]
      obtain ⟨r, W, L1, W2, k1, k2, k3⟩ := (last_lk h h0 hb1 hb2).rel h
      have k2' : f_X5_lastBy V2 L2 (nI b) = some (r, W2, L2) := k2 L2
      exact ⟨r, W, L1, W2, L2, by rw [k1]; rfl, by rw [k2']; rfl, k3.up L2⟩
    · have hz : n = 0 := by omega
      subst hz
      exact ⟨_, V, L, V2, L2, if_pos rfl, if_pos rfl, h.up L2⟩
theorem sim_verse : Sim_verse Rel := by
  rintro N V L V2 L2 x1 x2 hN ⟨s, q, ρ, n, K, T, B, Y, G, st, nv, bt, ct, sn, sf, so, h⟩
  obtain ⟨e1, e2, e3, e4⟩ := h.2.2.2.1
  unfold f_X5_verse
  rw [isVerse_eq e2 (by omega)]
  by_cases hx : ib x1 nv = true
  · rw [hx, if_neg (show ¬ bz true = 0 by decide)]
    obtain ⟨v, hv, rfl⟩ := ib_of hx (by omega)
    rw [show f_X5_within x2 0 2 = bz (ib x2 3) from within_eq (n := 3) (by omega) x2]
    by_cases hw : ib x2 3 = true
    · rw [hw, if_neg (show ¬ bz true = 0 by decide)]
      obtain ⟨w, hw3, rfl⟩ := ib_of hw (by omega)
      obtain ⟨r, W, L1, W2, k1, k2, k3⟩ := (verse_lk h hv (show w ≤ 2 by omega)).rel h
      have k2' : f_X5_verseNow V2 L2 (nI v) (nI w) = some (r, W2, L2) := k2 L2
      exact ⟨r, W, L1, W2, L2, k1, by rw [k2']; rfl, k3.up L2⟩
    · have hw0 : ib x2 3 = false := by simpa using hw
      rw [hw0]
      refine ⟨-102, V, L, V2, L2, ?_, if_pos rfl, h.up L2⟩
      unfold f_X4_verse
      rw [hasVerse_eq e1 e3, hx, if_neg (show ¬ bz true = 0 by decide), if_pos (ib_nI (show v < 3 by omega) (by decide)), if_neg (fun e => by rw [e] at hw0; revert hw0; decide), if_neg (fun e => by rw [e] at hw0; revert hw0; decide), if_neg (fun e => by rw [e] at hw0; revert hw0; decide)]
  · have hx0 : ib x1 nv = false := by simpa using hx
    rw [hx0]
    refine ⟨-101, V, L, V2, L2, ?_, if_pos rfl, h.up L2⟩
    unfold f_X4_verse
    rw [hasVerse_eq e1 e3, hx0]
    rfl
