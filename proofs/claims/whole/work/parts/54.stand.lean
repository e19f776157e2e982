/-! STAND -/
def mvN (X p : Nat) : Nat := (X &&& (2 ^ p - 1)) ||| 2 * dif X (2 ^ p - 1)
theorem mv_eq : ∀ X, X < 256 → ∀ p, p < 9 → f_X0_movedUp (nI X) (nI p) = nI (mvN X p) := by decide +kernel
theorem mv_bit : ∀ X, X < 256 → ∀ p, p < 9 → ∀ j, j < 9 → (mvN X p).testBit j = if j < p then X.testBit j else if j = p then false else X.testBit (j - 1) := by decide +kernel
theorem mv_512 : ∀ X, X < 256 → ∀ p, p < 9 → mvN X p < 512 := by decide +kernel
theorem mv_dif : ∀ X, X < 256 → ∀ p, p < 9 → dif (mvN X p) (2 ^ p) = mvN X p := by decide +kernel
theorem lt256 {n X : Nat} (hn : n ≤ 8) (h : X < 2 ^ n) : X < 256 := Nat.lt_of_lt_of_le h (Nat.pow_le_pow_right (by decide) hn)
theorem mv_lt {n X p : Nat} (hn : n ≤ 8) (hX : X < 2 ^ n) (hp : p ≤ n) : mvN X p < 2 ^ (n + 1) := by
  refine bits_lt (fun i hi => ?_)
  by_cases h9 : i < 9
  · rw [mv_bit X (lt256 hn hX) p (by omega) i h9, if_neg (by omega), if_neg (by omega)]
    exact bit_out hX (by omega)
  · exact bit_out (n := 9) (mv_512 X (lt256 hn hX) p (by omega)) (by omega)
def mvK (K : Nat → Nat) (p k : Nat) (j : Nat) : Nat := if j < p then K j else if j = p then k else K (j - 1)
theorem KB.mv {n : Nat} {K : Nat → Nat} {T B Y G : Nat} (h : KB n K T B Y G) (hn : n ≤ 8) {p k : Nat} (hp : p ≤ n) (hk : k ≤ 4) : KB (n + 1) (mvK K p k) (bset (decide (k = 1)) (mvN T p) p) (bset (decide (k = 2)) (mvN B p) p) (bset (decide (3 ≤ k)) (mvN Y p) p) (bset (decide (k = 4)) (mvN G p) p) := by
  obtain ⟨h1, h2, h3, h4, h5⟩ := h
  refine ⟨bset_lt (mv_lt hn h1 hp) (by omega), bset_lt (mv_lt hn h2 hp) (by omega), bset_lt (mv_lt hn h3 hp) (by omega), bset_lt (mv_lt hn h4 hp) (by omega), fun j hj => ?_⟩
  rw [bset_bit, bset_bit, bset_bit, bset_bit]
  unfold mvK
  by_cases e : j = p
  · subst e
    rw [if_neg (by omega), if_pos rfl, if_pos rfl, if_pos rfl, if_pos rfl, if_pos rfl]
    exact ⟨hk, rfl, rfl, rfl, rfl⟩
  · rw [if_neg e, if_neg e, if_neg e, if_neg e, mv_bit T (lt256 hn h1) p (by omega) j (by omega), mv_bit B (lt256 hn h2) p (by omega) j (by omega), mv_bit Y (lt256 hn h3) p (by omega) j (by omega), mv_bit G (lt256 hn h4) p (by omega) j (by omega)]
    by_cases e2 : j < p
    · simp only [if_pos e2, if_neg e]
      exact h5 j (by omega)
    · simp only [if_neg e2, if_neg e]
      exact h5 (j - 1) (by omega)
def mvS (p : Nat) (st : Nat × Nat × Nat × Bool) : Nat × Nat × Nat × Bool := (mvN st.1 p ||| 2 ^ p, mvN st.2.1 p, if st.2.2.1 < p then st.2.2.1 else st.2.2.1 + 1, st.2.2.2)
theorem mvS_ok {n p : Nat} {st : Nat × Nat × Nat × Bool} (hn : n ≤ 8) (hp : p ≤ n) (h : Sok n st) : Sok (n + 1) (mvS p st) := by
  obtain ⟨h1, h2, h3⟩ := h
  refine ⟨or_lt (mv_lt hn h1 hp) (pow_lt (by omega)), mv_lt hn h2 hp, ?_⟩
  show (if st.2.2.1 < p then st.2.2.1 else st.2.2.1 + 1) < n + 1
  split <;> omega
theorem addAhead_eq {c : Nat → Int32} {n T B Y G : Nat} {st : Nat × Nat × Nat × Bool} (h : CiS c n T B Y G st) (hn : n ≤ 8) (hT : T < 2 ^ n) (hB : B < 2 ^ n) (hY : Y < 2 ^ n) (hG : G < 2 ^ n) (hs : Sok n st) {p k : Nat} (hp : p ≤ n) (hk : k ≤ 4) :
    CiS (f_X0_addAhead c (nI p) (nI k)) (n + 1) (bset (decide (k = 1)) (mvN T p) p) (bset (decide (k = 2)) (mvN B p) p) (bset (decide (3 ≤ k)) (mvN Y p) p) (bset (decide (k = 4)) (mvN G p) p) (mvS p st) := by
  obtain ⟨I, S, f, o⟩ := st
  obtain ⟨g0, g1, g2, g3, g4, g5, g6, g7, g8⟩ := h
  have hI : I < 2 ^ n := hs.1
  have hS : S < 2 ^ n := hs.2.1
  have hf : f < n := hs.2.2
  have g5' : c 5 = nI I := g5
  have g6' : c 6 = nI S := g6
  have g7' : c 7 = nI f := g7
  have e1 : f_X0_movedUp (c 1) (nI p) = nI (mvN T p) := by rw [g1, mv_eq T (lt256 hn hT) p (by omega)]
  have e2 : f_X0_movedUp (c 2) (nI p) = nI (mvN B p) := by rw [g2, mv_eq B (lt256 hn hB) p (by omega)]
  have e3 : f_X0_movedUp (c 3) (nI p) = nI (mvN Y p) := by rw [g3, mv_eq Y (lt256 hn hY) p (by omega)]
  have e4 : f_X0_movedUp (c 4) (nI p) = nI (mvN G p) := by rw [g4, mv_eq G (lt256 hn hG) p (by omega)]
  have e6 : f_X0_movedUp (c 6) (nI p) = nI (mvN S p) := by rw [g6', mv_eq S (lt256 hn hS) p (by omega)]
  have e5 : f_X0_movedUp (c 5) (nI p) ||| ishl (1 : Int32) (nI p) = nI (mvN I p ||| 2 ^ p) := by rw [g5', mv_eq I (lt256 hn hI) p (by omega), ishl_one p (by omega), fa_or]
  have e0 : c 0 + 1 = nI (n + 1) := by rw [g0, nI_1]
  have e7 : c 7 + 1 = nI (f + 1) := by rw [g7', nI_1]
  have hd := mv_dif S (lt256 hn hS) p (by omega)
  unfold f_X0_addAhead
  rw [bnd_e, show f_X0_movedUp (c 1) (nI p) = nI (mvN T p) from e1]
  rw [bnd_e, show f_X0_movedUp (upd c 1 (nI (mvN T p)) 2) (nI p) = nI (mvN B p) from e2]
  rw [bnd_e, show f_X0_movedUp (upd (upd c 1 (nI (mvN T p))) 2 (nI (mvN B p)) 3) (nI p) = nI (mvN Y p) from e3]
  rw [bnd_e, show f_X0_movedUp (upd (upd (upd c 1 (nI (mvN T p))) 2 (nI (mvN B p))) 3 (nI (mvN Y p)) 4) (nI p) = nI (mvN G p) from e4]
  rw [bnd_e, show f_X0_movedUp (upd (upd (upd (upd c 1 (nI (mvN T p))) 2 (nI (mvN B p))) 3 (nI (mvN Y p))) 4 (nI (mvN G p)) 6) (nI p) = nI (mvN S p) from e6]
  rw [bnd_e, show f_X0_movedUp (upd (upd (upd (upd (upd c 1 (nI (mvN T p))) 2 (nI (mvN B p))) 3 (nI (mvN Y p))) 4 (nI (mvN G p))) 6 (nI (mvN S p)) 5) (nI p) ||| ishl (1 : Int32) (nI p) = nI (mvN I p ||| 2 ^ p) from e5]
  have hc6 : Ci (upd (upd (upd (upd (upd (upd c 1 (nI (mvN T p))) 2 (nI (mvN B p))) 3 (nI (mvN Y p))) 4 (nI (mvN G p))) 6 (nI (mvN S p))) 5 (nI (mvN I p ||| 2 ^ p))) n (mvN T p) (mvN B p) (mvN Y p) (mvN G p) (mvN I p ||| 2 ^ p) (mvN S p) f o := ⟨g0, rfl, rfl, rfl, rfl, rfl, rfl, g7, g8⟩
  generalize upd (upd (upd (upd (upd (upd c 1 (nI (mvN T p))) 2 (nI (mvN B p))) 3 (nI (mvN Y p))) 4 (nI (mvN G p))) 6 (nI (mvN S p))) 5 (nI (mvN I p ||| 2 ^ p)) = c6 at hc6
  have fin : ∀ (c7 : Nat → Int32) (f2 : Nat), Ci c7 n (mvN T p) (mvN B p) (mvN Y p) (mvN G p) (mvN I p ||| 2 ^ p) (mvN S p) f2 o → Ci (f_X0_addAhead_94 c7 (nI p) (nI k)) (n + 1) (bset (decide (k = 1)) (mvN T p) p) (bset (decide (k = 2)) (mvN B p) p) (bset (decide (3 ≤ k)) (mvN Y p) p) (bset (decide (k = 4)) (mvN G p) p) (mvN I p ||| 2 ^ p) (mvN S p) f2 o := by
    intro c7 f2 h7
    obtain ⟨k0, k1, k2, k3, k4, k5, k6, k7, k8⟩ := h7
    unfold f_X0_addAhead_94
    rw [k0, nI_1, bnd_e, bnd_e]
    have h8 : Ci (upd c7 0 (nI (n + 1))) (n + 1) (mvN T p) (mvN B p) (mvN Y p) (mvN G p) (mvN I p ||| 2 ^ p) (mvN S p) f2 o := ⟨rfl, k1, k2, k3, k4, k5, k6, k7, k8⟩
    have h9 := become_eq h8 (i := p) (k := k) (by omega) hk
    rw [hd] at h9
    exact h9
  rw [bnd_e, hc6.2.2.2.2.2.2.2.1]
  unfold CiS mvS
  by_cases hfp : f < p
  · rw [if_pos (nI_lt hfp (by omega))]
    show Ci _ _ _ _ _ _ _ _ (if f < p then f else f + 1) o
    rw [if_pos hfp]
    exact fin c6 f hc6
  · rw [if_neg (nI_nlt (by omega) (by omega)), nI_1]
    show Ci _ _ _ _ _ _ _ _ (if f < p then f else f + 1) o
    rw [if_neg hfp]
    exact fin _ (f + 1) hc6.up7
theorem load_any {V : Nat → Nat → Int32} {L : Nat → Int64} {st : Nat × Nat × Nat × Bool} (h : V 0 18 = nI st.1 ∧ V 0 19 = nI st.2.1 ∧ V 0 20 = nI st.2.2.1 ∧ V 0 21 = bz st.2.2.2) : f_X5_load V L = some (setD V st, L) := by
  obtain ⟨h1, h2, h3, h4⟩ := h
  simp only [f_X5_load, bnd]
  refine (if_pos (show isz (V 0 21) = true by rw [h4]; exact bz_isz _)).trans ?_
  congr 2
  funext a b
  simp only [up2_at]
  unfold setD
  by_cases ha : a = 0
  · subst ha
    by_cases e1 : b = 5
    · subst e1; exact h1
    by_cases e2 : b = 6
    · subst e2; exact h2
    by_cases e3 : b = 7
    · subst e3; exact h3
    by_cases e4 : b = 8
    · subst e4; exact h4
    simp [e1, e2, e3, e4]
  · simp [ha]
/-- what a STAND may change at the reference -/
def R4 (n : Nat) (V W : Nat → Nat → Int32) : Prop := (∀ b, b < 15 ∨ 23 < b → W 0 b = V 0 b) ∧ (∀ a, 0 < a → a ≠ 4 → W a = V a) ∧ ∀ i, i < n → W 4 i = V 4 i
theorem R4.rf (n : Nat) (V : Nat → Nat → Int32) : R4 n V V := ⟨fun _ _ => rfl, fun _ _ _ => rfl, fun _ _ => rfl⟩
theorem R4.tr {n : Nat} {V W U : Nat → Nat → Int32} (h : R4 n V W) (g : R4 n W U) : R4 n V U := ⟨fun b hb => (g.1 b hb).trans (h.1 b hb), fun a h1 h2 => (g.2.1 a h1 h2).trans (h.2.1 a h1 h2), fun i hi => (g.2.2 i hi).trans (h.2.2 i hi)⟩
theorem A2.r4 {V W : Nat → Nat → Int32} {n : Nat} {K : Nat → Nat} {st : Nat × Nat × Nat × Bool} (h : A2 V n K st) (g : R4 n V W) : A2 W n K st := by
  refine ⟨?_, ?_, fun i hi => (g.2.2 i hi).trans (h.2.2 i hi)⟩
  · rw [g.1 5 (by omega), g.1 6 (by omega), g.1 7 (by omega), g.1 8 (by omega)]
    exact h.1
  · rw [g.1 1 (by omega)]
    exact h.2.1
section
variable {n : Nat} {K : Nat → Nat} {T B Y G : Nat} {st : Nat × Nat × Nat × Bool}
def st24 (k5 : (Nat → Nat → Int32) → (Nat → Int64) → Int32 → Int32 → Option (Int32 × (Nat → Nat → Int32) × (Nat → Int64))) (x1 x2 x3 x4 : Int32) (V : Nat → Nat → Int32) (L : Nat → Int64) : Option (Int32 × (Nat → Nat → Int32) × (Nat → Int64)) :=
  if ib x4 9 = true then
    bnd (up2 V 4 x4.toNatClampNeg x1) fun V_1 =>
    bnd (up2 V_1 0 5 ((f_X5_opened (V_1 0 5) x4) ||| (ishl (1 : Int32) x4))) fun V_2 =>
    bnd (up2 V_2 0 6 (f_X5_opened (V_2 0 6) x4)) fun V_3 =>
    if (V_3 0 7) < x4 then
    (bnd (up2 V_3 0 7 ((V_3 0 7) + (0 : Int32))) fun V_4 =>
    f_X5_standNow_115 k5 V_4 L x1 x2 x3 x4)
    else
    (bnd (up2 V_3 0 7 ((V_3 0 7) + (1 : Int32))) fun V_5 =>
    f_X5_standNow_115 k5 V_5 L x1 x2 x3 x4) else none
theorem shift24 (hn : n ≤ 8) {p : Nat} (hp : p ≤ n) {k5 : (Nat → Nat → Int32) → (Nat → Int64) → Int32 → Int32 → Option (Int32 × (Nat → Nat → Int32) × (Nat → Int64))} {x1 x2 : Int32} :
    ∀ (m fuel c : Nat) (W : Nat → Nat → Int32), c = p + m → c ≤ n → m < fuel → (∀ j, j ≤ c → j < n → W 4 j = nI (K j)) → (∀ j, c < j → j ≤ n → W 4 j = nI (K (j - 1))) →
      ∃ U, (∀ j, j < p → U 4 j = nI (K j)) ∧ (∀ j, p < j → j ≤ n → U 4 j = nI (K (j - 1))) ∧ (∀ a, a ≠ 4 → U a = W a) ∧ ∀ x3 L, f_X5_standNow_24 k5 x1 x2 x3 (nI p) fuel W L (nI c) = st24 k5 x1 x2 x3 (nI p) U L := by
  intro m
  induction m with
  | zero =>
    intro fuel c W hc hcn hf h1 h2
    obtain ⟨g, rfl⟩ : ∃ g, fuel = g + 1 := ⟨fuel - 1, by omega⟩
    have hcp : c = p := by omega
    subst hcp
    refine ⟨W, fun j hj => h1 j (by omega) (by omega), fun j hj hj2 => h2 j hj hj2, fun _ _ => rfl, fun x3 L => ?_⟩
    rw [f_X5_standNow_24, if_pos (nI_le (Nat.le_refl _) (by omega))]
    rfl
  | succ m ih =>
    intro fuel c W hc hcn hf h1 h2
    obtain ⟨g, rfl⟩ : ∃ g, fuel = g + 1 := ⟨fuel - 1, by omega⟩
    obtain ⟨d, rfl⟩ : ∃ d, c = d + 1 := ⟨c - 1, by omega⟩
    have hd : W 4 d = nI (K d) := h1 d (by omega) (by omega)
    obtain ⟨U, u1, u2, u3, u4⟩ := ih g d (up2 W 4 (d + 1) (nI (K d))) (by omega) (by omega) (by omega) (fun j hj hjn => by
      rw [up2_at, if_pos rfl, if_neg (by omega)]
      exact h1 j (by omega) hjn) (fun j hj hjn => by
      rw [up2_at, if_pos rfl]
      by_cases e : j = d + 1
      · rw [if_pos e, e]
        rfl
      · rw [if_neg e]
        exact h2 j (by omega) hjn)
    refine ⟨U, u1, u2, fun a ha => (u3 a ha).trans (setc_ne W _ ha), fun x3 L => ?_⟩
    rw [f_X5_standNow_24, if_neg (nI_ge (show p < d + 1 by omega) (by omega)), nI_pred, pk_m1, if_pos (ib_nI (show d < 9 by omega) (by decide)), if_pos (ib_nI (show d + 1 < 9 by omega) (by decide)), nI_clamp (by omega), nI_clamp (by omega), hd]
    exact u4 x3 L
theorem back160 (hn : n ≤ 8) {k5 : (Nat → Nat → Int32) → (Nat → Int64) → Int32 → Int32 → Option (Int32 × (Nat → Nat → Int32) × (Nat → Int64))} {x1 x2 x4 : Int32} :
    ∀ (m fuel c : Nat) (W : Nat → Nat → Int32), c + m = n → m < fuel → W 0 1 = nI n → (∀ j, j < c → W 4 j = nI (K j)) → (∀ j, c ≤ j → j < n → W 4 (j + 1) = nI (K j)) →
      ∃ U, (∀ j, j < n → U 4 j = nI (K j)) ∧ (∀ a, a ≠ 4 → U a = W a) ∧ ∀ x3 L, f_X5_standNow_160 k5 x1 x2 x3 x4 fuel W L (nI c) = bd2 (f_X5_load U L) fun V_1 L_2 => k5 V_1 L_2 x3 (x4 + 1) := by
  intro m
  induction m with
  | zero =>
    intro fuel c W hc hf h01 h1 h2
    obtain ⟨g, rfl⟩ : ∃ g, fuel = g + 1 := ⟨fuel - 1, by omega⟩
    refine ⟨W, fun j hj => h1 j (by omega), fun _ _ => rfl, fun x3 L => ?_⟩
    rw [f_X5_standNow_160, h01, if_pos (nI_le (by omega) (by omega))]
  | succ m ih =>
    intro fuel c W hc hf h01 h1 h2
    obtain ⟨g, rfl⟩ : ∃ g, fuel = g + 1 := ⟨fuel - 1, by omega⟩
    have hcn : c < n := by omega
    obtain ⟨U, u1, u2, u3⟩ := ih g (c + 1) (up2 W 4 c (nI (K c))) (by omega) (by omega) h01 (fun j hj => by
      rw [up2_at, if_pos rfl]
      by_cases e : j = c
      · rw [if_pos e, e]
      · rw [if_neg e]
        exact h1 j (by omega)) (fun j hj hjn => by
      rw [up2_at, if_pos rfl, if_neg (by omega)]
      exact h2 j (by omega) hjn)
    refine ⟨U, u1, fun a ha => (u2 a ha).trans (setc_ne W _ ha), fun x3 L => ?_⟩
    rw [f_X5_standNow_160, h01, if_neg (nI_ge hcn (by omega)), nI_1, if_pos (ib_nI (show c + 1 < 9 by omega) (by decide)), if_pos (ib_nI (show c < 9 by omega) (by decide)), nI_clamp (by omega), nI_clamp (by omega), h2 c (Nat.le_refl _) hcn]
    exact u3 x3 L
theorem opened_eq (x y : Int32) : f_X5_opened x y = f_X0_movedUp x y := rfl
theorem stand_step (hn : n ≤ 8) (a2 : Sok n st) (hB : KB n K T B Y G) {V2 : Nat → Nat → Int32} (hA : A2 V2 n K st) {p k b : Nat} (hp : p ≤ n) (hk : k ≤ 4) (hb : 1 ≤ b) (hb2 : b ≤ 99) {k5 : (Nat → Nat → Int32) → (Nat → Int64) → Int32 → Int32 → Option (Int32 × (Nat → Nat → Int32) × (Nat → Int64))} :
    ∃ Q, R4 n V2 Q ∧ ∀ x3 L2, f_X5_standNow_24 k5 (nI k) (nI b) x3 (nI p) 20000 (setD (setSv V2 st) st) L2 (nI n) = if one (down (n + 1) (bset (decide (k = 1)) (mvN T p) p) (bset (decide (k = 2)) (mvN B p) p) (bset (decide (3 ≤ k)) (mvN Y p) p) (bset (decide (k = 4)) (mvN G p) p) b (n + 1) (mvS p st)).1 = nI p then k5 Q L2 (x3 ||| ishl (1 : Int32) (nI p)) (nI (p + 1)) else k5 Q L2 (x3 ||| (0 : Int32)) (nI (p + 1)) := by
  have hrf : RF V2 (setD (setSv V2 st) st) := hA.svd
  have hro : RO V2 (setD (setSv V2 st) st) := hA.svo
  have hA1 := hA.rf hrf
  have hsv : (setD (setSv V2 st) st) 0 18 = nI st.1 ∧ (setD (setSv V2 st) st) 0 19 = nI st.2.1 ∧ (setD (setSv V2 st) st) 0 20 = nI st.2.2.1 ∧ (setD (setSv V2 st) st) 0 21 = bz st.2.2.2 := ⟨rfl, rfl, rfl, rfl⟩
  generalize setD (setSv V2 st) st = S1 at hrf hro hA1 hsv
  obtain ⟨U, u1, u2, u3, u4⟩ := shift24 (K := K) (k5 := k5) (x1 := nI k) (x2 := nI b) hn hp (n - p) 20000 n S1 (by omega) (by omega) (by omega) (fun j _ hj => hA1.2.2 j hj) (fun j hj hj2 => by omega)
  have U0 : U 0 = S1 0 := u3 0 (by decide)
  have hI := lt256 hn a2.1
  have hS := lt256 hn a2.2.1
  obtain ⟨W0, e0, a0, b0, c0⟩ := up_ex U 4 p (nI k)
  obtain ⟨W1, e1, a1, b1, c1⟩ := up_ex W0 0 5 (nI (mvN st.1 p ||| 2 ^ p))
  obtain ⟨W2, e2, a2', b2, c2⟩ := up_ex W1 0 6 (nI (mvN st.2.1 p))
  obtain ⟨W3, e3, a3, b3, c3⟩ := up_ex W2 0 7 (nI (if st.2.2.1 < p then st.2.2.1 else st.2.2.1 + 1))
  obtain ⟨W4, e4, a4, b4, c4⟩ := up_ex W3 0 1 (nI (n + 1))
  have hmid : ∀ x3 L2, st24 k5 (nI k) (nI b) x3 (nI p) U L2 = bd3 (f_X5_lastNow W4 L2 (nI b)) fun r_2 V_3 L_4 => if r_2 = nI p then (f_X5_standNow_146 k5 V_3 L_4 (nI k) (nI b) (x3 ||| (ishl (1 : Int32) (nI p))) (nI p)) else (f_X5_standNow_146 k5 V_3 L_4 (nI k) (nI b) (x3 ||| (0 : Int32)) (nI p)) := by
    intro x3 L2
    unfold st24
    have q5 : W0 0 5 = nI st.1 := by rw [c0 0 (by decide), U0]; exact hA1.1.1
    have q6 : W1 0 6 = nI st.2.1 := by rw [b1 6 (by decide), c0 0 (by decide), U0]; exact hA1.1.2.1
    have q7 : W2 0 7 = nI st.2.2.1 := by rw [b2 7 (by decide), b1 7 (by decide), c0 0 (by decide), U0]; exact hA1.1.2.2.1
    have q1 : W3 0 1 = nI n := by rw [b3 1 (by decide), b2 1 (by decide), b1 1 (by decide), c0 0 (by decide), U0]; exact hA1.2.1
    have hf := a2.2.2
    rw [if_pos (ib_nI (show p < 9 by omega) (by decide)), nI_clamp (by omega), e0, bnd_e, q5, opened_eq, mv_eq _ hI p (by omega), ishl_one p (by omega), fa_or, e1, bnd_e, q6, opened_eq, mv_eq _ hS p (by omega), e2, bnd_e, q7]
    by_cases hfp : st.2.2.1 < p
    · rw [if_pos hfp] at e3
      rw [if_pos (nI_lt hfp (by omega)), ← nI_0, nI_add, Nat.add_zero, e3, bnd_e]
      unfold f_X5_standNow_115
      rw [q1, nI_1, e4, bnd_e, ishl_one p (by omega), nI_0]
    · rw [if_neg hfp] at e3
      rw [if_neg (nI_nlt (by omega) (by omega)), nI_1, e3, bnd_e]
      unfold f_X5_standNow_115
      rw [q1, nI_1, e4, bnd_e, ishl_one p (by omega)]
  have hA4 : A2 W4 (n + 1) (mvK K p k) (mvS p st) := by
    refine ⟨⟨?_, ?_, ?_, ?_⟩, a4, fun i hi => ?_⟩
    · rw [b4 5 (by decide), b3 5 (by decide), b2 5 (by decide), a1]; rfl
    · rw [b4 6 (by decide), b3 6 (by decide), a2']; rfl
    · rw [b4 7 (by decide), a3]; rfl
    · rw [b4 8 (by decide), b3 8 (by decide), b2 8 (by decide), b1 8 (by decide), c0 0 (by decide), U0]; exact hA1.1.2.2.2
    · rw [c4 4 (by decide), c3 4 (by decide), c2 4 (by decide), c1 4 (by decide)]
      unfold mvK
      by_cases e : i = p
      · rw [e, a0, if_neg (by omega), if_pos rfl]
      · rw [b0 i e]
        by_cases e2 : i < p
        · rw [if_pos e2]; exact u1 i e2
        · rw [if_neg e2, if_neg e]; exact u2 i (by omega) (by omega)
  have hln : ∀ L2, f_X5_lastNow W4 L2 (nI b) = some (one (down (n + 1) (bset (decide (k = 1)) (mvN T p) p) (bset (decide (k = 2)) (mvN B p) p) (bset (decide (3 ≤ k)) (mvN Y p) p) (bset (decide (k = 4)) (mvN G p) p) b (n + 1) (mvS p st)).1, setD W4 (down (n + 1) (bset (decide (k = 1)) (mvN T p) p) (bset (decide (k = 2)) (mvN B p) p) (bset (decide (3 ≤ k)) (mvN Y p) p) (bset (decide (k = 4)) (mvN G p) p) b (n + 1) (mvS p st)), L2) := fun L2 => by
    have := lastNow_eq (L := L2) hA4.2 (show n + 1 ≤ 9 by omega) (hB.mv hn hp hk) hb hb2 (mvS_ok hn hp a2)
    rw [hA4.sd] at this
    exact this
  generalize down (n + 1) (bset (decide (k = 1)) (mvN T p) p) (bset (decide (k = 2)) (mvN B p) p) (bset (decide (3 ≤ k)) (mvN Y p) p) (bset (decide (k = 4)) (mvN G p) p) b (n + 1) (mvS p st) = dn at hln
  have hD : ∀ b, b ≠ 5 → b ≠ 6 → b ≠ 7 → b ≠ 8 → setD W4 dn 0 b = W4 0 b := fun b h5 h6 h7 h8 => by
    unfold setD
    rw [if_pos rfl, if_neg h5, if_neg h6, if_neg h7, if_neg h8]
  have hDa : ∀ a, a ≠ 0 → setD W4 dn a = W4 a := fun a ha => by
    funext b
    unfold setD
    rw [if_neg ha]
  obtain ⟨Q0, f0, g0, h0, i0⟩ := up_ex (setD W4 dn) 0 1 (nI n)
  obtain ⟨Q1, j1, j2, j3⟩ := back160 (K := K) (k5 := k5) (x1 := nI k) (x2 := nI b) (x4 := nI p) hn (n - p) 20000 p Q0 (by omega) (by omega) g0 (fun j hj => by
    rw [i0 4 (by decide), hDa 4 (by decide), hA4.2.2 j (by omega)]
    unfold mvK
    rw [if_pos hj]) (fun j hj hjn => by
    rw [i0 4 (by decide), hDa 4 (by decide), hA4.2.2 (j + 1) (by omega)]
    unfold mvK
    rw [if_neg (by omega), if_neg (by omega)]
    rfl)
  have hW4 : ∀ b, b ≠ 5 → b ≠ 6 → b ≠ 7 → b ≠ 1 → W4 0 b = S1 0 b := fun b h5 h6 h7 h1 => by rw [b4 b h1, b3 b h7, b2 b h6, b1 b h5, c0 0 (by decide), U0]
  have hQ1 : ∀ b, b ≠ 5 → b ≠ 6 → b ≠ 7 → b ≠ 8 → b ≠ 1 → Q1 0 b = S1 0 b := fun b h5 h6 h7 h8 h1 => by rw [j2 0 (by decide), h0 b h1, hD b h5 h6 h7 h8, hW4 b h5 h6 h7 h1]
  have hld : ∀ L2, f_X5_load Q1 L2 = some (setD Q1 st, L2) := fun L2 => load_any ⟨by rw [hQ1 18 (by decide) (by decide) (by decide) (by decide) (by decide)]; exact hsv.1, by rw [hQ1 19 (by decide) (by decide) (by decide) (by decide) (by decide)]; exact hsv.2.1, by rw [hQ1 20 (by decide) (by decide) (by decide) (by decide) (by decide)]; exact hsv.2.2.1, by rw [hQ1 21 (by decide) (by decide) (by decide) (by decide) (by decide)]; exact hsv.2.2.2⟩
  have h146 : ∀ y3 L2, f_X5_standNow_146 k5 (setD W4 dn) L2 (nI k) (nI b) y3 (nI p) = k5 (setD Q1 st) L2 y3 (nI (p + 1)) := fun y3 L2 => by
    unfold f_X5_standNow_146
    rw [hD 1 (by decide) (by decide) (by decide) (by decide), a4, nI_pred, f0, bnd_e, j3 y3 L2, hld L2, bd2_s, nI_1]
  refine ⟨setD Q1 st, ⟨fun b hb => ?_, fun a h1 h2 => ?_, fun i hi => ?_⟩, fun x3 L2 => ?_⟩
  · by_cases h5 : b = 5
    · subst h5; exact hA.1.1.symm
    by_cases h6 : b = 6
    · subst h6; exact hA.1.2.1.symm
    by_cases h7 : b = 7
    · subst h7; exact hA.1.2.2.1.symm
    by_cases h8 : b = 8
    · subst h8; exact hA.1.2.2.2.symm
    have : setD Q1 st 0 b = Q1 0 b := by
      unfold setD
      rw [if_pos rfl, if_neg h5, if_neg h6, if_neg h7, if_neg h8]
    rw [this]
    by_cases h1 : b = 1
    · subst h1
      rw [j2 0 (by decide), g0]
      exact hA.2.1.symm
    · rw [hQ1 b h5 h6 h7 h8 h1]
      exact hrf.1 b hb
  · have : setD Q1 st a = Q1 a := by
      funext b
      unfold setD
      rw [if_neg (by omega)]
    rw [this, j2 a h2, i0 a (by omega), hDa a (by omega), c4 a (by omega), c3 a (by omega), c2 a (by omega), c1 a (by omega), c0 a h2, u3 a h2]
    exact hro.2 a h1
  · show Q1 4 i = _
    rw [j1 i hi]
    exact (hA.2.2 i hi).symm
  · rw [u4 x3 L2, hmid x3 L2, hln L2, bd3_s, h146, h146]
theorem stand_loop (hn : n ≤ 8) (a2 : Sok n st) (hB : KB n K T B Y G) {k b : Nat} (hk : k ≤ 4) (hb : 1 ≤ b) (hb2 : b ≤ 99) :
    ∀ (m fuel fuel2 p : Nat) (x3 : Int32) (V : Nat → Nat → Int32) (L : Nat → Int64) (V2 : Nat → Nat → Int32), CiS (V 6) n T B Y G st → A2 V2 n K st → p + m = n + 1 → m < fuel → m < fuel2 →
      ∃ r W W2, f_X1_placesFor_5 (nI k) (nI b) fuel V L x3 (nI p) = some (r, W, L) ∧ (∀ L2, f_X5_standNow_5 (nI k) (nI b) fuel2 V2 L2 x3 (nI p) = some (r, W2, L2)) ∧ F16 V W ∧ R4 n V2 W2 := by
  intro m
  induction m with
  | zero =>
    intro fuel fuel2 p x3 V L V2 hC hA hp hf hf2
    obtain ⟨g, rfl⟩ : ∃ g, fuel = g + 1 := ⟨fuel - 1, by omega⟩
    obtain ⟨g2, rfl⟩ : ∃ g, fuel2 = g + 1 := ⟨fuel2 - 1, by omega⟩
    refine ⟨x3, V, V2, ?_, fun L2 => ?_, F16.rf V, R4.rf n V2⟩
    · rw [f_X1_placesFor_5, hC.1, if_pos (nI_lt (by omega) (by omega))]
    · rw [f_X5_standNow_5, hA.2.1, if_pos (nI_lt (by omega) (by omega))]
  | succ m ih =>
    intro fuel fuel2 p x3 V L V2 hC hA hp hf hf2
    obtain ⟨g, rfl⟩ : ∃ g, fuel = g + 1 := ⟨fuel - 1, by omega⟩
    obtain ⟨g2, rfl⟩ : ∃ g, fuel2 = g + 1 := ⟨fuel2 - 1, by omega⟩
    have hpn : p ≤ n := by omega
    obtain ⟨Q, q1, q2⟩ := stand_step hn a2 hB hA hpn hk hb hb2 (k5 := f_X5_standNow_5 (nI k) (nI b) g2)
    obtain ⟨c1, t1, t2⟩ := takeAll_eq (c := V 16) hC
    have t3 := addAhead_eq t2 hn hB.1 hB.2.1 hB.2.2.1 hB.2.2.2.1 a2 hpn hk
    obtain ⟨c2, d1, d2⟩ := countDown_eq (show n + 1 ≤ 9 by omega) hb hb2 t3 (mvS_ok hn hpn a2)
    have hsv : ∀ L2, f_X5_save V2 L2 = some (setD (setSv V2 st) st, L2) := fun L2 => by
      have := save_eq V2 L2 st
      rw [hA.sd] at this
      exact this
    generalize one (down (n + 1) (bset (decide (k = 1)) (mvN T p) p) (bset (decide (k = 2)) (mvN B p) p) (bset (decide (3 ≤ k)) (mvN Y p) p) (bset (decide (k = 4)) (mvN G p) p) b (n + 1) (mvS p st)).1 = val at d1 q2
    have hcl : f_X1_placesFor_5 (nI k) (nI b) (g + 1) V L x3 (nI p) = if val = nI p then f_X1_placesFor_5 (nI k) (nI b) g (setc V 16 c2) L (x3 ||| ishl (1 : Int32) (nI p)) (nI (p + 1)) else f_X1_placesFor_5 (nI k) (nI b) g (setc V 16 c2) L (x3 ||| (0 : Int32)) (nI (p + 1)) := by
      rw [f_X1_placesFor_5, hC.1, if_neg (nI_nlt hpn (by omega)), t1]
      simp only [bd1, bnd, setc_at, setc_setc, d1, bd2, nI_1]
    have hre : ∀ L2, f_X5_standNow_5 (nI k) (nI b) (g2 + 1) V2 L2 x3 (nI p) = if val = nI p then f_X5_standNow_5 (nI k) (nI b) g2 Q L2 (x3 ||| ishl (1 : Int32) (nI p)) (nI (p + 1)) else f_X5_standNow_5 (nI k) (nI b) g2 Q L2 (x3 ||| (0 : Int32)) (nI (p + 1)) := fun L2 => by
      rw [f_X5_standNow_5, hA.2.1, if_neg (nI_nlt hpn (by omega)), hsv L2, bd2_s, show setD (setSv V2 st) st 0 1 = nI n from hA.2.1, q2 x3 L2]
    have step : ∀ y3 : Int32, ∃ r W W2, f_X1_placesFor_5 (nI k) (nI b) g (setc V 16 c2) L y3 (nI (p + 1)) = some (r, W, L) ∧ (∀ L2, f_X5_standNow_5 (nI k) (nI b) g2 Q L2 y3 (nI (p + 1)) = some (r, W2, L2)) ∧ F16 V W ∧ R4 n V2 W2 := by
      intro y3
      obtain ⟨r, W, W2, k1, k2, k3, k4⟩ := ih g g2 (p + 1) y3 (setc V 16 c2) L Q hC (hA.r4 q1) (by omega) (by omega) (by omega)
      exact ⟨r, W, W2, k1, k2, (F16.st V c2).tr k3, q1.tr k4⟩
    by_cases hv : val = nI p
    · obtain ⟨r, W, W2, k1, k2, k3, k4⟩ := step (x3 ||| ishl (1 : Int32) (nI p))
      exact ⟨r, W, W2, by rw [hcl, if_pos hv, k1], fun L2 => by rw [hre L2, if_pos hv, k2 L2], k3, k4⟩
    · obtain ⟨r, W, W2, k1, k2, k3, k4⟩ := step (x3 ||| (0 : Int32))
      exact ⟨r, W, W2, by rw [hcl, if_neg hv, k1], fun L2 => by rw [hre L2, if_neg hv, k2 L2], k3, k4⟩
end
section
variable {N s : Nat} {q : Nat → Nat} {ρ n : Nat} {K : Nat → Nat} {T B Y G : Nat} {st : Nat × Nat × Nat × Bool} {nv : Nat} {bt : Nat → Nat} {ct sn : Nat} {sf so : Nat → Nat} {V : Nat → Nat → Int32} {L : Nat → Int64} {V2 : Nat → Nat → Int32}
theorem RelX.fr4 {W : Nat → Nat → Int32} {L1 : Nat → Int64} {W2 : Nat → Nat → Int32} (h : RelX N s q ρ n K T B Y G st nv bt ct sn sf so V L V2) (hc : FC V W) (hr : R4 n V2 W2) (ha : RCa W L1) : RelX N s q ρ n K T B Y G st nv bt ct sn sf so W L1 W2 := by
  have hr' : RF V2 (setc W2 4 (V2 4)) := by
    refine ⟨fun b hb => ?_, fun a h0 _ => ?_⟩
    · rw [setc_ne _ _ (by decide)]; exact hr.1 b hb
    · by_cases e : a = 4
      · rw [e, setc_at]
      · rw [setc_ne _ _ e]; exact hr.2.1 a h0 e
  obtain ⟨h1, h2, h3, h4, h5, h6, h7, h8, h9⟩ := h.fr hc hr' ha
  exact ⟨h1, h2, ⟨h3.1, h3.2.1, ⟨h3.2.2.1.1, fun i hi => (hr.2.2 i hi).trans (h.2.2.1.2.2.1.2 i hi)⟩, h3.2.2.2⟩, h4, h5, h6, h7, h8, h9⟩
theorem stand_lk (h : RelX N s q ρ n K T B Y G st nv bt ct sn sf so V L V2) (h0 : 0 < n) {k b : Nat} (hk : k ≤ 4) (hb : 1 ≤ b) (hb2 : b ≤ 99) : ∃ r W W2, f_X1_placesFor V L (nI k) (nI b) = some (r, W, L) ∧ (∀ L2, f_X5_standNow V2 L2 (nI k) (nI b) = some (r, W2, L2)) ∧ RelX N s q ρ n K T B Y G st nv bt ct sn sf so W L W2 := by
  have ha := h.a2
  have h' := h
  obtain ⟨h1, h2, h3, h4, h5, h6, h7, h8, h9⟩ := h'
  have hn := h7.le
  obtain ⟨a1, a2, a3⟩ := h7.ok h0
  obtain ⟨r, W, W2, k1, k2, k3, k4⟩ := stand_loop hn a2 h3.2.2.2 hk hb hb2 (n + 1) 20000 20000 0 0 V L V2 h3.1 ha (by omega) (by omega) (by omega)
  refine ⟨r, W, W2, ?_, fun L2 => ?_, h.fr4 k3.fc k4 (h9.f16 k3)⟩
  · rw [nI_0] at k1
    exact k1
  · have k2' := k2 L2
    rw [nI_0] at k2'
    exact k2'
end
theorem sim_stand : Sim_stand Rel := by
  rintro N V L V2 L2 x1 x2 hN ⟨s, q, ρ, n, K, T, B, Y, G, st, nv, bt, ct, sn, sf, so, h⟩
  have h3 := h.2.2.1
  have hn := h.2.2.2.2.2.2.1.le
  unfold f_X4_stand f_X5_stand f_X5_areBeats
  rw [isKind_eq, within5, isBeats_eq, hasRing_eq h3.1.1 (by omega), h3.2.2.1.1]
  by_cases hk : ib x1 5 = true
  · rw [hk, if_neg (show ¬ bz true = 0 by decide), if_neg (show ¬ bz true = 0 by decide)]
    obtain ⟨k, hk5, rfl⟩ := ib_of hk (by omega)
    by_cases hb : f_X5_within x2 1 99 = 0
    · exact ⟨_, V, L, V2, L2, if_pos hb, if_pos hb, h.up L2⟩
    · obtain ⟨b, hb1, hb2, rfl⟩ := beats_of hb
      rw [if_neg hb, if_neg hb]
      by_cases h0 : 0 < n
      · rw [decide_eq_true h0, if_neg (show ¬ bz true = 0 by decide), if_neg (nI_ne0 h0 (by omega))]
        obtain ⟨r, W, W2, k1, k2, k3⟩ := stand_lk h h0 (show k ≤ 4 by omega) hb1 hb2
        exact ⟨r, W, L, W2, L2, by rw [k1]; rfl, by rw [k2 L2]; rfl, k3.up L2⟩
      · have hz : n = 0 := by omega
        subst hz
        exact ⟨_, V, L, V2, L2, if_pos rfl, if_pos rfl, h.up L2⟩
  · have hk0 : ib x1 5 = false := by simpa using hk
    rw [hk0]
    exact ⟨_, V, L, V2, L2, if_pos rfl, if_pos rfl, h.up L2⟩
