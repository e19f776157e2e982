/-! frames: what a call that only looks leaves as it was -/
def RF (V W : Nat → Nat → Int32) : Prop := (∀ b, b < 15 ∨ 23 < b → W 0 b = V 0 b) ∧ ∀ a, 0 < a → a < 22 ∨ 36 < a → W a = V a
theorem RF.rf (V : Nat → Nat → Int32) : RF V V := ⟨fun _ _ => rfl, fun _ _ _ => rfl⟩
theorem RF.tr {V W U : Nat → Nat → Int32} (h : RF V W) (g : RF W U) : RF V U := ⟨fun b hb => (g.1 b hb).trans (h.1 b hb), fun a ha hb => (g.2 a ha hb).trans (h.2 a ha hb)⟩
def FC (V W : Nat → Nat → Int32) : Prop := W 1 1 = V 1 1 ∧ ∀ a, (a = 0 ∨ a = 2 ∨ (5 ≤ a ∧ a ≤ 14)) → W a = V a
theorem FC.rf (V : Nat → Nat → Int32) : FC V V := ⟨rfl, fun _ _ => rfl⟩
theorem FC.tr {V W U : Nat → Nat → Int32} (h : FC V W) (g : FC W U) : FC V U := ⟨g.1.trans h.1, fun a ha => (g.2 a ha).trans (h.2 a ha)⟩
def F16 (V W : Nat → Nat → Int32) : Prop := ∀ a, a ≠ 16 → W a = V a
theorem F16.rf (V : Nat → Nat → Int32) : F16 V V := fun _ _ => rfl
theorem F16.tr {V W U : Nat → Nat → Int32} (h : F16 V W) (g : F16 W U) : F16 V U := fun a ha => (g a ha).trans (h a ha)
theorem F16.st (V : Nat → Nat → Int32) (c : Nat → Int32) : F16 V (setc V 16 c) := fun _ h => setc_ne V c h
theorem F16.fc {V W : Nat → Nat → Int32} (h : F16 V W) : FC V W := ⟨by rw [h 1 (by decide)], fun a ha => h a (by omega)⟩
theorem RCa.same {V W : Nat → Nat → Int32} {L L1 : Nat → Int64} (h : RCa V L) (h1 : W 17 = V 17) (h2 : W 18 = V 18) (h3 : L1 3 = L 3) (h4 : L1 5 = L 5) : RCa W L1 := by
  unfold RCa
  rw [h1, h2, h3, h4]
  exact h
theorem RCa.f16 {V W : Nat → Nat → Int32} {L : Nat → Int64} (h : RCa V L) (g : F16 V W) : RCa W L := h.same (g 17 (by decide)) (g 18 (by decide)) rfl rfl
theorem RelX.fr {N s : Nat} {q : Nat → Nat} {ρ n : Nat} {K : Nat → Nat} {T B Y G : Nat} {st : Nat × Nat × Nat × Bool} {nv : Nat} {bt : Nat → Nat} {ct sn : Nat} {sf so : Nat → Nat} {V : Nat → Nat → Int32} {L : Nat → Int64} {V2 : Nat → Nat → Int32} {W : Nat → Nat → Int32} {L1 : Nat → Int64} {W2 : Nat → Nat → Int32} (h : RelX N s q ρ n K T B Y G st nv bt ct sn sf so V L V2) (hc : FC V W) (hr : RF V2 W2) (ha : RCa W L1) : RelX N s q ρ n K T B Y G st nv bt ct sn sf so W L1 W2 := by
  obtain ⟨h1, h2, h3, h4, h5, h6, h7, h8, -⟩ := h
  have c1 := hc.1
  have c0 := hc.2 0 (by omega)
  have c2 := hc.2 2 (by omega)
  have c5 := hc.2 5 (by omega)
  have c6 := hc.2 6 (by omega)
  have c7 := hc.2 7 (by omega)
  have c8 := hc.2 8 (by omega)
  have c9 := hc.2 9 (by omega)
  have c10 := hc.2 10 (by omega)
  have c11 := hc.2 11 (by omega)
  have c12 := hc.2 12 (by omega)
  have c13 := hc.2 13 (by omega)
  have c14 := hc.2 14 (by omega)
  have f := fun b hb => hr.1 b hb
  have a3 := hr.2 3 (by omega) (by omega)
  have a4 := hr.2 4 (by omega) (by omega)
  have a11 := hr.2 11 (by omega) (by omega)
  have a12 := hr.2 12 (by omega) (by omega)
  have a14 := hr.2 14 (by omega) (by omega)
  have a45 := hr.2 45 (by omega) (by omega)
  have a46 := hr.2 46 (by omega) (by omega)
  have a47 := hr.2 47 (by omega) (by omega)
  have a48 := hr.2 48 (by omega) (by omega)
  refine ⟨?_, ?_, ?_, ?_, ?_, ?_, h7, ?_, ha⟩
  · unfold RPg
    rw [c1, c2, f 13 (by omega), a14]
    exact h1
  · unfold RRg
    rw [c0, f 0 (by omega)]
    exact h2
  · unfold RCi Mb
    rw [c6, f 5 (by omega), f 6 (by omega), f 7 (by omega), f 8 (by omega), f 1 (by omega), a4]
    exact h3
  · unfold RVe
    rw [c5, c7, f 2 (by omega), a3]
    exact h4
  · unfold RCt
    rw [c5, f 9 (by omega)]
    exact h5
  · unfold RSn
    rw [c5, c8, c9, f 10 (by omega), a11, a12]
    exact h6
  · unfold RKp RIm
    rw [c0, c10, c11, c12, c13, c14, f 37 (by omega), f 38 (by omega), f 39 (by omega), f 40 (by omega), f 41 (by omega), f 42 (by omega), f 43 (by omega), f 44 (by omega), a45, a46, a47, a48]
    exact h8
theorem within_0 (x lo hi : Int32) : (f_X5_within x lo hi = 0) = (x < lo ∨ hi < x) := by
  unfold f_X5_within
  by_cases h1 : x < lo
  · rw [if_pos h1]; simp [h1]
  · rw [if_neg h1]
    by_cases h2 : hi < x
    · rw [if_pos h2]; simp [h2]
    · rw [if_neg h2]; simp [h1, h2]
theorem sim_letter : Sim_letter Rel := by
  rintro N V L V2 L2 x1 hN ⟨s, q, ρ, n, K, T, B, Y, G, st, nv, bt, ct, sn, sf, so, h⟩
  have hs := h.1
  unfold f_X4_letter f_X5_letter
  by_cases h1 : x1 < 32
  · exact ⟨_, V, L, V2, L2, if_pos h1, if_pos (by rw [within_0]; exact Or.inl h1), h.up L2⟩
  · by_cases h2 : (126 : Int32) < x1
    · exact ⟨_, V, L, V2, L2, by rw [if_neg h1, if_neg (by rw [Int32.not_le]; exact h2)], if_pos (by rw [within_0]; exact Or.inr h2), h.up L2⟩
    · have hx : ∃ c, 32 ≤ c ∧ c ≤ 126 ∧ x1 = nI c := by
        have g3 : ib x1 127 = true := by
          rw [ib_toInt]
          refine decide_eq_true ⟨?_, ?_⟩
          · have : ¬ x1.toInt < 32 := fun e => h1 (by rw [Int32.lt_iff_toInt_lt]; exact e)
            omega
          · have : ¬ 126 < x1.toInt := fun e => h2 (by rw [show (126 : Int32) = nI 126 from by decide, nI_lt_iff (by decide)]; exact e)
            omega
        obtain ⟨i, hi, e⟩ := ib_of g3 (by decide)
        refine ⟨i, ?_, by omega, e⟩
        rw [e] at h1
        refine Nat.le_of_not_lt (fun hl => h1 (nI_lt (b := 32) hl (by decide)))
      obtain ⟨c, hc1, hc2, rfl⟩ := hx
      rw [if_neg h1, if_pos (by rw [← Int32.not_lt]; exact h2), if_neg (by rw [within_0]; exact fun e => e.elim h1 h2)]
      obtain ⟨e1, e2, e3, e4⟩ := hs
      unfold f_X2_append
      rw [e1, e2, if_neg (nI_pos (by omega))]
      by_cases h3 : s = 20
      · subst h3
        exact ⟨_, V, L, V2, L2, by rw [if_neg (by decide)]; rfl, if_pos (by decide), h.up L2⟩
      · have hs20 : s < 20 := by omega
        refine ⟨nI (s + 1), up2 (up2 V 2 s (nI c)) 1 1 (nI (s + 1)), L, up2 (up2 V2 14 s (nI c)) 0 13 (nI (s + 1)), L2, ?_, ?_, ?_⟩
        · rw [if_pos (show nI s < (20 : Int32) from nI_lt (b := 20) hs20 (by decide)), if_pos (ib_nI hs20 (by decide)), nI_clamp (by omega)]
          simp only [bnd]
          rw [show up2 V 2 s (nI c) 1 1 = nI s from e1, nI_1]
          rfl
        · rw [if_neg (show ¬ nI s = (20 : Int32) from fun e => h3 ((nI_eq (b := 20) (by omega) (by decide)).mp e)), if_pos (ib_nI hs20 (by decide)), nI_clamp (by omega)]
          simp only [bnd]
          rw [show up2 V2 14 s (vp_nar .byte (i2b (nI c))) 0 13 = nI s from e2, nI_1]
          have e5 : vp_nar .byte (i2b (nI c)) = nI c := by
            rw [vp_nar_byte]
            unfold i2b
            rw [fa_byte_small (by omega), fa_byte_small (by omega)]
          rw [e5]
          rfl
        · obtain ⟨-, h2, h3, h4, h5, h6, h7, h8, h9⟩ := h.mono
          refine ⟨s + 1, fun i => if i = s then c else q i, ρ, n, K, T, B, Y, G, st, nv, bt, ct, sn, sf, so, ⟨rfl, rfl, by omega, fun i hi => ?_⟩, h2, h3, h4, h5, h6, h7, h8, h9⟩
          show upd (V 2) s (nI c) i = nI (if i = s then c else q i) ∧ upd (V2 14) s (nI c) i = nI (if i = s then c else q i) ∧ 32 ≤ (if i = s then c else q i) ∧ (if i = s then c else q i) ≤ 126
          by_cases e : i = s
          · subst e
            rw [pk_us, pk_us, if_pos rfl]
            exact ⟨rfl, rfl, hc1, hc2⟩
          · rw [pk_un e, pk_un e, if_neg e]
            exact e4 i (by omega)
theorem sim_blank : Sim_blank Rel := by
  rintro N V L V2 L2 hN ⟨s, q, ρ, n, K, T, B, Y, G, st, nv, bt, ct, sn, sf, so, h⟩
  obtain ⟨h1, h2, h3, h4, h5, h6, h7, h8, h9⟩ := h.mono
  refine ⟨nI s, up2 V 1 1 0, L, up2 V2 0 13 0, L2, ?_, ?_, 0, q, ρ, n, K, T, B, Y, G, st, nv, bt, ct, sn, sf, so, ⟨rfl, rfl, by omega, fun i hi => by omega⟩, h2, h3, h4, h5, h6, h7, h8, h9⟩
  · rw [← h1.1]; rfl
  · rw [← h1.2.1]; rfl
theorem sim_forget : Sim_forget Rel := by
  rintro N V L V2 L2 hN ⟨s, q, ρ, n, K, T, B, Y, G, st, nv, bt, ct, sn, sf, so, h⟩
  obtain ⟨h1, h2, h3, h4, h5, h6, h7, h8, h9⟩ := h.mono
  refine ⟨nI sn, up2 V 5 6 0, L, up2 V2 0 10 0, L2, ?_, ?_, s, q, ρ, n, K, T, B, Y, G, st, nv, bt, ct, 0, sf, so, h1, h2, h3, h4, h5, ⟨rfl, rfl, by omega, fun i hi => by omega⟩, ?_, h8, h9⟩
  · rw [← h6.1]; rfl
  · rw [← h6.2.1]; rfl
  · rcases h7 with ⟨a1, a2, a3, a4, a5⟩ | a
    · exact Or.inl ⟨a1, a2, a3, a4, rfl⟩
    · exact Or.inr a
theorem sim_first : Sim_first Rel := by
  rintro N V L V2 L2 x1 hN ⟨s, q, ρ, n, K, T, B, Y, G, st, nv, bt, ct, sn, sf, so, h⟩
  obtain ⟨h1, h2, h3, h4, h5, h6, h7, h8, h9⟩ := h.mono
  have hn := h7.le
  unfold f_X4_first f_X5_first
  rw [hasChild_eq h3.1.1 (by omega), isChild_eq h3.2.2.1.1 (by omega)]
  by_cases hx : ib x1 n = true
  · rw [hx, if_neg (show ¬ bz true = 0 by decide), if_neg (show ¬ bz true = 0 by decide)]
    obtain ⟨i, hi, rfl⟩ := ib_of hx (by omega)
    obtain ⟨I, S, f, o⟩ := st
    obtain ⟨a1, a2, a3⟩ := h7.ok (by omega)
    obtain ⟨⟨g0, g1, g2, g3, g4, g5, g6, g7, g8⟩, ⟨b5, b6, b7, b8⟩, b9, b10⟩ := h3
    refine ⟨nI f, up2 V 6 7 (nI i), L, up2 V2 0 7 (nI i), L2, ?_, ?_, s, q, ρ, n, K, T, B, Y, G, (I, S, i, o), nv, bt, ct, sn, sf, so, h1, h2, ⟨⟨g0, g1, g2, g3, g4, g5, g6, rfl, g8⟩, ⟨b5, b6, rfl, b8⟩, b9, b10⟩, h4, h5, h6, Or.inr ⟨a1, hn, ⟨a2.1, a2.2.1, hi⟩, a3⟩, h8, h9⟩
    · simp only [bnd]; rw [g7]
    · simp only [bnd]; rw [b7]
  · have hx0 : ib x1 n = false := by simpa using hx
    rw [hx0]
    exact ⟨_, V, L, V2, L2, if_pos rfl, if_pos rfl, h.up L2⟩
theorem hasRing_eq {V : Nat → Nat → Int32} {L : Nat → Int64} {n : Nat} (h : V 6 0 = nI n) (hn : n ≤ 9) : f_X3_hasRing V L = bz (decide (0 < n)) := by
  unfold f_X3_hasRing
  rw [h]
  by_cases h0 : 0 < n
  · rw [if_neg (nI_nle h0 (by omega)), decide_eq_true h0]; rfl
  · rw [show n = 0 by omega]; rfl
theorem sim_turn : Sim_turn Rel := by
  rintro N V L V2 L2 hN ⟨s, q, ρ, n, K, T, B, Y, G, st, nv, bt, ct, sn, sf, so, h⟩
  obtain ⟨h1, h2, h3, h4, h5, h6, h7, h8, h9⟩ := h.mono
  have hn := h7.le
  unfold f_X4_turn f_X5_turn
  rw [hasRing_eq h3.1.1 (by omega), h3.2.2.1.1]
  by_cases h0 : 0 < n
  · rw [decide_eq_true h0, if_neg (show ¬ bz true = 0 by decide), if_neg (nI_ne0 h0 (by omega))]
    obtain ⟨I, S, f, o⟩ := st
    obtain ⟨a1, a2, a3⟩ := h7.ok (by omega)
    obtain ⟨⟨g0, g1, g2, g3, g4, g5, g6, g7, g8⟩, ⟨b5, b6, b7, b8⟩, b9, b10⟩ := h3
    refine ⟨bz o, up2 V 6 8 (bz (!o)), L, up2 V2 0 8 (bz (!o)), L2, ?_, ?_, s, q, ρ, n, K, T, B, Y, G, (I, S, f, !o), nv, bt, ct, sn, sf, so, h1, h2, ⟨⟨g0, g1, g2, g3, g4, g5, g6, g7, rfl⟩, ⟨b5, b6, b7, rfl⟩, b9, b10⟩, h4, h5, h6, Or.inr ⟨a1, hn, ⟨a2.1, a2.2.1, a2.2.2⟩, a3⟩, h8, h9⟩
    · rw [show V 6 8 = bz o from g8]
      cases o <;> rfl
    · rw [show V2 0 8 = bz o from b8]
      cases o <;> rfl
  · have hz : n = 0 := by omega
    subst hz
    exact ⟨_, V, L, V2, L2, if_pos rfl, if_pos rfl, h.up L2⟩
