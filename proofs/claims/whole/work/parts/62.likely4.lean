/-! LIKELY, and the digest's steps -/
section
variable {N s : Nat} {q : Nat → Nat} {ρ n : Nat} {K : Nat → Nat} {T B Y G : Nat} {st : Nat × Nat × Nat × Bool} {nv : Nat} {bt : Nat → Nat} {ct sn : Nat} {sf so : Nat → Nat} {V : Nat → Nat → Int32} {L : Nat → Int64} {V2 : Nat → Nat → Int32}
def likV (p : Nat) (x2 : Int32) : Int32 := if x2 = 0 then nI (p / Nat.gcd p (3 ^ 7)) else nI (3 ^ 7 / Nat.gcd p (3 ^ 7))
theorem two_of {x : Int32} (h1 : ¬ x < 0) (h2 : ¬ (1 : Int32) < x) : x = 0 ∨ x = 1 := by
  have g3 : ib x 2 = true := by
    rw [ib_toInt]
    refine decide_eq_true ⟨?_, ?_⟩
    · have : ¬ x.toInt < 0 := fun e => h1 (by rw [lt0]; exact e)
      omega
    · have : ¬ 1 < x.toInt := fun e => h2 (by rw [show (1 : Int32) = nI 1 from by decide, nI_lt_iff (by decide)]; exact e)
      omega
  obtain ⟨i, hi, e⟩ := ib_of g3 (by decide)
  have : i = 0 ∨ i = 1 := by omega
  rcases this with r | r <;> subst r
  · exact Or.inl e
  · exact Or.inr e
theorem likely4 (h : RelX N s q ρ n K T B Y G st nv bt ct sn sf so V L V2) {c : Nat} (hc : c < n) (hin : st.1.testBit c = true) {x2 : Int32} (hx : x2 = 0 ∨ x2 = 1) : ∃ W L1, f_X4_likely V L (nI c) x2 = some (likV (wy n T B Y G c 7 st) x2, W, L1) ∧ RelX N s q ρ n K T B Y G st nv bt ct sn sf so W L1 V2 := by
  have h3 := h.2.2.1
  have h7 := h.2.2.2.2.2.2.1
  have hn := h7.le
  obtain ⟨a1, a2, a3⟩ := h7.ok (by omega)
  unfold f_X4_likely likV
  rw [hasChild_eq h3.1.1 (by omega), ib_nI hc (by omega), if_neg (show ¬ bz true = 0 by decide), cisIn_eq h3.1.2.2.2.2.2.1 a2.1 (by omega) (by omega), hin, if_neg (show ¬ bz true = 0 by decide)]
  rcases hx with e | e <;> subst e
  · obtain ⟨W, L1, w1, w2, w3⟩ := chance_eq h hc 1
    rw [if_neg (show ¬ (1 : Int32) = 0 by decide)] at w3
    exact ⟨W, L1, by rw [w3]; rfl, h.fr w1 (RF.rf V2) w2⟩
  · obtain ⟨W, L1, w1, w2, w3⟩ := chance_eq h hc 0
    rw [if_pos rfl] at w3
    exact ⟨W, L1, by rw [w3]; rfl, h.fr w1 (RF.rf V2) w2⟩
theorem lay4 (h : RelX N s q ρ n K T B Y G st nv bt ct sn sf so V L V2) (h0 : 0 < n) : ∃ W2, (∀ L2, f_X5_layLikely V2 L2 = some (W2, L2)) ∧ RelX N s q ρ n K T B Y G st nv bt ct sn sf so V L W2 ∧ ∀ c, c < n → ∀ x2 L2, f_X5_likelyNow W2 L2 (nI c) x2 = some (likV (wy n T B Y G c 7 st) x2) := by
  have h7 := h.2.2.2.2.2.2.1
  have hn := h7.le
  obtain ⟨a1, a2, a3⟩ := h7.ok h0
  obtain ⟨W, w1, w2, w3⟩ := layLikely_eq hn h.2.2.1.2.2.2 h.a2 a2
  refine ⟨W, w1, h.fr (FC.rf V) w2 h.2.2.2.2.2.2.2.2, fun c hc x2 L2 => ?_⟩
  rw [lnow_eq (by omega) (w3 c (by omega)) (wy_le c 7 st) L2]
  unfold likV
  by_cases hx : x2 = 0
  · rw [if_pos hx, if_pos hx]
  · rw [if_neg hx, if_neg hx]
end
theorem sim_likely : Sim_likely Rel := by
  rintro N V L V2 L2 x1 x2 hN ⟨s, q, ρ, n, K, T, B, Y, G, st, nv, bt, ct, sn, sf, so, h⟩
  have h3 := h.2.2.1
  have h7 := h.2.2.2.2.2.2.1
  have hn := h7.le
  unfold f_X5_likely
  rw [isChild_eq h3.2.2.1.1 (by omega)]
  by_cases hx : ib x1 n = true
  · rw [hx, if_neg (show ¬ bz true = 0 by decide)]
    obtain ⟨c, hc, rfl⟩ := ib_of hx (by omega)
    obtain ⟨a1, a2, a3⟩ := h7.ok (by omega)
    have hI9 := lt_pow (show n ≤ 9 by omega) a2.1
    have hcl : f_X4_likely V L (nI c) x2 = f_X4_likely V L (nI c) x2 := rfl
    conv at hcl => rhs; unfold f_X4_likely
    rw [hasChild_eq h3.1.1 (by omega), hx, if_neg (show ¬ bz true = 0 by decide)] at hcl
    by_cases c1 : x2 < 0
    · rw [if_pos c1] at hcl
      exact ⟨_, V, L, V2, L2, hcl, if_pos (by rw [within_0]; exact Or.inl c1), h.up L2⟩
    · rw [if_neg c1] at hcl
      by_cases c2 : (1 : Int32) < x2
      · rw [if_neg (by rw [Int32.not_le]; exact c2)] at hcl
        exact ⟨_, V, L, V2, L2, hcl, if_pos (by rw [within_0]; exact Or.inr c2), h.up L2⟩
      · rw [if_pos (by rw [← Int32.not_lt]; exact c2), cisIn_eq h3.1.2.2.2.2.2.1 a2.1 (by omega) (by omega)] at hcl
        rw [if_neg (show ¬ f_X5_within x2 0 1 = 0 by rw [within_0]; exact fun e => e.elim c1 c2), h3.2.1.1, isIn_eq (by omega) (by omega)]
        cases hia : st.1.testBit c with
        | false =>
          rw [hia, if_pos (show bz false = 0 from rfl)] at hcl
          exact ⟨_, V, L, V2, L2, hcl, if_pos rfl, h.up L2⟩
        | true =>
          rw [if_neg (show ¬ bz true = 0 by decide)]
          obtain ⟨W2, w1, w2, w3⟩ := lay4 h (by omega)
          obtain ⟨W, L1, k1, k2⟩ := likely4 w2 hc hia (two_of c1 c2)
          exact ⟨_, W, L1, W2, L2, k1, by rw [w1 L2, bd2_s, w3 c hc x2 L2, bd1_s], k2.up L2⟩
  · have hx0 : ib x1 n = false := by simpa using hx
    rw [hx0]
    refine ⟨-101, V, L, V2, L2, ?_, if_pos rfl, h.up L2⟩
    unfold f_X4_likely
    rw [hasChild_eq h3.1.1 (by omega), hx0]
    rfl
theorem mix_eq (V : Nat → Nat → Int32) {L : Nat → Int64} {y : Int64} (hy : L 49 = y) (z : Int64) : f_X5_mix V L z = some (V, setc L 49 ((31 : Int64) * y + z)) := by
  unfold f_X5_mix
  rw [hy]
  rfl
section
variable {N s : Nat} {q : Nat → Nat} {ρ n : Nat} {K : Nat → Nat} {T B Y G : Nat} {st : Nat × Nat × Nat × Bool} {nv : Nat} {bt : Nat → Nat} {ct sn : Nat} {sf so : Nat → Nat}
/-- one number more: both sides -/
theorem dg_step {F : Option (Int32 × (Nat → Nat → Int32) × (Nat → Int64))} {Gf : (Nat → Int64) → Option (Int32 × (Nat → Nat → Int32) × (Nat → Int64))} (hl : ∃ (r : Int32) (W : Nat → Nat → Int32) (L1 : Nat → Int64) (W2 : Nat → Nat → Int32), F = some (r, W, L1) ∧ (∀ L2, Gf L2 = some (r, W2, L2)) ∧ RelX N s q ρ n K T B Y G st nv bt ct sn sf so W L1 W2) {L2 : Nat → Int64} {y : Int64} (hy : L2 49 = y) :
    ∃ (V' : Nat → Nat → Int32) (L' : Nat → Int64) (V2' : Nat → Nat → Int32) (L2' : Nat → Int64) (y' : Int64), RelX N s q ρ n K T B Y G st nv bt ct sn sf so V' L' V2' ∧ L2' 49 = y' ∧ (∀ k : (Nat → Nat → Int32) → (Nat → Int64) → Int64 → Option (Int64 × (Nat → Nat → Int32) × (Nat → Int64)), (bd3 F fun r V L => bnd (((31 : Int64) * y) + r.toInt64) fun t => k V L t) = k V' L' y') ∧ ∀ {α : Type} (k : (Nat → Nat → Int32) → (Nat → Int64) → Option α), (bd3 (Gf L2) fun r V L => bd2 (f_X5_mix V L r.toInt64) fun V L => k V L) = k V2' L2' := by
  obtain ⟨r, W, L1, W2, e1, e2, e3⟩ := hl
  refine ⟨W, L1, W2, setc L2 49 ((31 : Int64) * y + r.toInt64), (31 : Int64) * y + r.toInt64, e3, setc_at _ _ _, fun k => ?_, fun k => ?_⟩
  · rw [e1, bd3_s, bnd_e]
  · rw [e2 L2, bd3_s, mix_eq W2 hy, bd2_s]
variable {V : Nat → Nat → Int32} {L : Nat → Int64} {V2 : Nat → Nat → Int32}
theorem begin4 (h : RelX N s q ρ n K T B Y G st nv bt ct sn sf so V L V2) {c : Nat} (hc : c < n) : ∃ (r : Int32) (W : Nat → Nat → Int32) (L1 : Nat → Int64) (W2 : Nat → Nat → Int32), f_X4_begin V L (nI c) 7 = some (r, W, L1) ∧ (∀ L2, f_X5_beginNow V2 L2 (nI c) 7 = some (r, W2, L2)) ∧ RelX N s q ρ n K T B Y G st nv bt ct sn sf so W L1 W2 := by
  have hn := h.2.2.2.2.2.2.1.le
  obtain ⟨r, W, L1, W2, k1, k2, k3⟩ := (begin_lk h (by omega) (b := 7) (by omega) (by omega) (nI c)).rel h
  refine ⟨r, W, L1, W2, ?_, k2, k3⟩
  unfold f_X4_begin
  rw [hasChild_eq h.2.2.1.1.1 (by omega), ib_nI hc (by omega), if_neg (show ¬ bz true = 0 by decide), if_neg (show ¬ f_X4_isBeats 7 = 0 by decide), bd3_id]
  exact k1
theorem last4 (h : RelX N s q ρ n K T B Y G st nv bt ct sn sf so V L V2) (h0 : 0 < n) : ∃ (r : Int32) (W : Nat → Nat → Int32) (L1 : Nat → Int64) (W2 : Nat → Nat → Int32), f_X4_last V L 3 = some (r, W, L1) ∧ (∀ L2, f_X5_lastBy V2 L2 3 = some (r, W2, L2)) ∧ RelX N s q ρ n K T B Y G st nv bt ct sn sf so W L1 W2 := by
  have hn := h.2.2.2.2.2.2.1.le
  obtain ⟨r, W, L1, W2, k1, k2, k3⟩ := (last_lk h h0 (b := 3) (by omega) (by omega)).rel h
  refine ⟨r, W, L1, W2, ?_, k2, k3⟩
  unfold f_X4_last
  rw [if_neg (show ¬ f_X4_isBeats 3 = 0 by decide), hasRing_eq h.2.2.1.1.1 (by omega), decide_eq_true h0, if_neg (show ¬ bz true = 0 by decide), bd3_id]
  exact k1
theorem stand4 (h : RelX N s q ρ n K T B Y G st nv bt ct sn sf so V L V2) (h0 : 0 < n) : ∃ (r : Int32) (W : Nat → Nat → Int32) (L1 : Nat → Int64) (W2 : Nat → Nat → Int32), f_X4_stand V L 0 5 = some (r, W, L1) ∧ (∀ L2, f_X5_standNow V2 L2 0 5 = some (r, W2, L2)) ∧ RelX N s q ρ n K T B Y G st nv bt ct sn sf so W L1 W2 := by
  have hn := h.2.2.2.2.2.2.1.le
  obtain ⟨r, W, W2, k1, k2, k3⟩ := stand_lk h h0 (k := 0) (b := 5) (by omega) (by omega) (by omega)
  refine ⟨r, W, L, W2, ?_, k2, k3⟩
  unfold f_X4_stand
  rw [if_neg (show ¬ f_X4_isKind 0 = 0 by decide), if_neg (show ¬ f_X4_isBeats 5 = 0 by decide), hasRing_eq h.2.2.1.1.1 (by omega), decide_eq_true h0, if_neg (show ¬ bz true = 0 by decide), bd3_id]
  exact k1
theorem lengths4 (h : RelX N s q ρ n K T B Y G st nv bt ct sn sf so V L V2) (h0 : 0 < n) : ∃ (r : Int32) (W : Nat → Nat → Int32) (L1 : Nat → Int64) (W2 : Nat → Nat → Int32), f_X4_lengths V L = some (r, W, L1) ∧ (∀ L2, f_X5_lengthsNow V2 L2 = some (r, W2, L2)) ∧ RelX N s q ρ n K T B Y G st nv bt ct sn sf so W L1 W2 := by
  have hn := h.2.2.2.2.2.2.1.le
  obtain ⟨r, W, L1, W2, k1, k2, k3⟩ := (len_lk h h0).rel h
  refine ⟨r, W, L1, W2, ?_, k2, k3⟩
  unfold f_X4_lengths
  rw [hasRing_eq h.2.2.1.1.1 (by omega), decide_eq_true h0, if_neg (show ¬ bz true = 0 by decide), bd3_id]
  exact k1
theorem from4 (h : RelX N s q ρ n K T B Y G st nv bt ct sn sf so V L V2) (h0 : 0 < n) : ∃ (r : Int32) (W : Nat → Nat → Int32) (L1 : Nat → Int64) (W2 : Nat → Nat → Int32), f_X4_from V L = some (r, W, L1) ∧ (∀ L2, f_X5_fromNow V2 L2 = some (r, W2, L2)) ∧ RelX N s q ρ n K T B Y G st nv bt ct sn sf so W L1 W2 := by
  have hn := h.2.2.2.2.2.2.1.le
  obtain ⟨r, W, L1, W2, k1, k2, k3⟩ := (from_lk h h0).rel h
  refine ⟨r, W, L1, W2, ?_, k2, k3⟩
  unfold f_X4_from
  rw [hasRing_eq h.2.2.1.1.1 (by omega), decide_eq_true h0, if_neg (show ¬ bz true = 0 by decide)]
  exact k1
theorem game4 (h : RelX N s q ρ n K T B Y G st nv bt ct sn sf so V L V2) (h2 : 2 ≤ n) (g0 : st.1.testBit 0 = true) (g1 : st.1.testBit 1 = true) {x3 : Int32} (hx : x3 = 0 ∨ x3 = 1) : ∃ (r : Int32) (W : Nat → Nat → Int32) (L1 : Nat → Int64) (W2 : Nat → Nat → Int32), f_X4_game V L 0 1 x3 = some (r, W, L1) ∧ (∀ L2, f_X5_gameNow V2 L2 0 1 x3 = some (r, W2, L2)) ∧ RelX N s q ρ n K T B Y G st nv bt ct sn sf so W L1 W2 := by
  have h7 := h.2.2.2.2.2.2.1
  have hn := h7.le
  obtain ⟨a1, a2, a3⟩ := h7.ok (by omega)
  have h3 := h.2.2.1
  obtain ⟨r, W, L1, W2, k1, k2, k3⟩ := (game_lk h (show 0 < n by omega) (show 1 < n by omega) (by decide) x3).rel h
  refine ⟨r, W, L1, W2, ?_, k2, k3⟩
  have main : f_X4_game V L (nI 0) (nI 1) x3 = some (r, W, L1) := by
    unfold f_X4_game
    rw [hasChild_eq h3.1.1 (by omega), hasChild_eq h3.1.1 (by omega), ib_nI (show 0 < n by omega) (by omega), ib_nI (show 1 < n by omega) (by omega), if_neg (show ¬ bz true = 0 by decide), if_neg (show ¬ bz true = 0 by decide), if_neg (show ¬ nI 0 = nI 1 by decide), if_neg (show ¬ x3 < 0 by rcases hx with e | e <;> subst e <;> decide), if_pos (show x3 ≤ 1 by rcases hx with e | e <;> subst e <;> decide), cisIn_eq h3.1.2.2.2.2.2.1 a2.1 (by omega) (by omega), cisIn_eq h3.1.2.2.2.2.2.1 a2.1 (by omega) (by omega), g0, g1, if_neg (show ¬ bz true = 0 by decide), if_neg (show ¬ bz true = 0 by decide)]
    exact k1
  exact main
end
