/-! LIKELY: the numbers, and the class's shares -/
theorem irem_nI {a d : Nat} (ha : a < 2 ^ 31) (h0 : 0 < d) (hd : d < 2 ^ 31) : irem (nI a) (nI d) = nI (a % d) := pk_rem ha h0 hd
theorem one_256 : ∀ a, a < 256 → (pop a = 1 → fa_first (fun k => a.testBit k) 9 < 8 ∧ a = 2 ^ fa_first (fun k => a.testBit k) 9) ∧ (¬ pop a = 1 → ∀ c, c < 8 → ¬ a = 2 ^ c) := by decide +kernel
theorem one_or {a : Nat} (ha : a < 256) : (∃ i, i < 8 ∧ one a = nI i ∧ a = 2 ^ i) ∨ (one a = -1 ∧ ∀ c, c < 8 → ¬ a = 2 ^ c) := by
  obtain ⟨h1, h2⟩ := one_256 a ha
  unfold one
  by_cases h : pop a = 1
  · obtain ⟨g1, g2⟩ := h1 h
    exact Or.inl ⟨_, g1, if_pos h, g2⟩
  · exact Or.inr ⟨if_neg h, h2 h⟩
theorem two_inj {i c : Nat} (h : 2 ^ i = 2 ^ c) : i = c := (Nat.pow_right_inj (by decide)).mp h
theorem gcd3 {p m : Nat} (h : ¬ p % 3 = 0) : Nat.gcd p (3 ^ m) = 1 := by
  have h3 : Nat.Coprime p 3 := by
    show Nat.gcd p 3 = 1
    rw [Nat.gcd_comm, Nat.gcd_rec]
    have h2 : p % 3 = 1 ∨ p % 3 = 2 := by omega
    rcases h2 with h2 | h2 <;> rw [h2] <;> decide
  exact Nat.Coprime.pow_right m h3
theorem gcd_step {p m : Nat} (h : p % 3 = 0) : Nat.gcd p (3 ^ (m + 1)) = 3 * Nat.gcd (p / 3) (3 ^ m) := by
  have hp := Nat.gcd_mul_left 3 (p / 3) (3 ^ m)
  rw [show 3 * (p / 3) = p by omega, Nat.mul_comm 3 (3 ^ m), ← Nat.pow_succ] at hp
  exact hp
theorem red_loop {V : Nat → Nat → Int32} {L : Nat → Int64} {x2 : Int32} : ∀ (m fuel j p : Nat), j + m = 7 → m < fuel → p ≤ 2187 → f_X1_chanceOf_107 V L x2 fuel (nI p) (nI (3 ^ m)) (nI j) = f_X1_chanceOf_139 V L x2 (nI (p / Nat.gcd p (3 ^ m))) (nI (3 ^ m / Nat.gcd p (3 ^ m))) := by
  intro m
  induction m with
  | zero =>
    intro fuel j p hj hf hp
    obtain ⟨g, rfl⟩ : ∃ g, fuel = g + 1 := ⟨fuel - 1, by omega⟩
    rw [f_X1_chanceOf_107, if_pos (show (7 : Int32) ≤ nI j from nI_le (a := 7) (by omega) (by omega)), Nat.pow_zero, Nat.gcd_one_right, Nat.div_one]
  | succ m ih =>
    intro fuel j p hj hf hp
    obtain ⟨g, rfl⟩ : ∃ g, fuel = g + 1 := ⟨fuel - 1, by omega⟩
    have hpw := pow3 3 (by omega) (m + 1) (by omega)
    have hr : irem (nI p) (3 : Int32) = nI (p % 3) := irem_nI (d := 3) (by omega) (by decide) (by decide)
    rw [f_X1_chanceOf_107, if_neg (show ¬ (7 : Int32) ≤ nI j from nI_ge (b := 7) (by omega) (by decide)), hr]
    by_cases h : p % 3 = 0
    · have e1 : nI p / (3 : Int32) = nI (p / 3) := pk_div (d := 3) (by omega) (by decide) (by decide)
      have e2 : nI (3 ^ (m + 1)) / (3 : Int32) = nI (3 ^ m) := by
        rw [show nI (3 ^ (m + 1)) / (3 : Int32) = nI (3 ^ (m + 1) / 3) from pk_div (d := 3) (by omega) (by decide) (by decide), pow_div (by omega)]
      have e3 : p / (3 * Nat.gcd (p / 3) (3 ^ m)) = p / 3 / Nat.gcd (p / 3) (3 ^ m) := (Nat.div_div_eq_div_mul p 3 _).symm
      have e4 : 3 ^ (m + 1) / (3 * Nat.gcd (p / 3) (3 ^ m)) = 3 ^ m / Nat.gcd (p / 3) (3 ^ m) := by rw [← Nat.div_div_eq_div_mul, pow_div (by omega)]
      rw [if_pos (show nI (p % 3) = 0 by rw [h]; rfl), e1, e2, nI_1, ih g (j + 1) (p / 3) (by omega) (by omega) (by omega), gcd_step h, e3, e4]
    · rw [if_neg (nI_ne0 (by omega) (by omega)), gcd3 h, Nat.div_one, Nat.div_one]
theorem div_loop : ∀ (m fuel a b : Nat), b ≤ m → m < fuel → a < 2 ^ 31 → b < 2 ^ 31 → f_X5_divisor_4 fuel (nI a) (nI b) = some (nI (Nat.gcd a b)) := by
  intro m
  induction m with
  | zero =>
    intro fuel a b hb hf ha hb2
    obtain ⟨g, rfl⟩ : ∃ g, fuel = g + 1 := ⟨fuel - 1, by omega⟩
    have hb0 : b = 0 := by omega
    subst hb0
    rw [f_X5_divisor_4, if_pos nI_0, Nat.gcd_zero_right]
  | succ m ih =>
    intro fuel a b hb hf ha hb2
    obtain ⟨g, rfl⟩ : ∃ g, fuel = g + 1 := ⟨fuel - 1, by omega⟩
    by_cases h0 : b = 0
    · subst h0
      rw [f_X5_divisor_4, if_pos nI_0, Nat.gcd_zero_right]
    · have hn := nI_ne0 (show 0 < b by omega) hb2
      have hlt := Nat.mod_lt a (show 0 < b by omega)
      rw [f_X5_divisor_4, if_neg hn, if_neg hn, irem_nI ha (by omega) hb2, ih g b (a % b) (by omega) (by omega) hb2 (by omega), Nat.gcd_comm b, ← Nat.gcd_rec, Nat.gcd_comm]
theorem lnow_loop {V : Nat → Nat → Int32} {L : Nat → Int64} {x2 : Int32} {c p : Nat} (hc : c < 8) (h34 : V 34 c = nI p) (hp : p ≤ 2187) :
    ∀ (m fuel k : Nat), k + m = 7 → m < fuel → f_X5_likelyNow_5 V L (nI c) x2 fuel (nI (3 ^ k)) (nI k) = if x2 = 0 then some (nI (p / Nat.gcd p (3 ^ 7))) else some (nI (3 ^ 7 / Nat.gcd p (3 ^ 7))) := by
  intro m
  induction m with
  | zero =>
    intro fuel k hk hf
    obtain ⟨g, rfl⟩ : ∃ g, fuel = g + 1 := ⟨fuel - 1, by omega⟩
    have hk7 : k = 7 := by omega
    subst hk7
    have hg0 : 0 < Nat.gcd p (3 ^ 7) := Nat.gcd_pos_of_pos_right _ (by decide)
    have hg1 : Nat.gcd p (3 ^ 7) ≤ 3 ^ 7 := Nat.gcd_le_right _ (by decide)
    have h37 : (3 : Nat) ^ 7 = 2187 := by decide
    have hd : f_X5_divisor (nI p) (nI (3 ^ 7)) = some (nI (Nat.gcd p (3 ^ 7))) := by
      unfold f_X5_divisor
      exact div_loop 2187 20000 p (3 ^ 7) (by omega) (by omega) (by omega) (by omega)
    rw [f_X5_likelyNow_5, if_pos (show (7 : Int32) ≤ nI 7 by decide), if_pos (ib_nI hc (by decide)), nI_clamp (by omega), h34, hd, bd1_s, if_pos (ib_nI hc (by decide)), if_neg (nI_ne0 hg0 (by omega)), if_neg (nI_ne0 hg0 (by omega)), pk_div (by omega) hg0 (by omega), pk_div (by omega) hg0 (by omega)]
  | succ m ih =>
    intro fuel k hk hf
    obtain ⟨g, rfl⟩ : ∃ g, fuel = g + 1 := ⟨fuel - 1, by omega⟩
    have e : nI (3 ^ k) * (3 : Int32) = nI (3 ^ (k + 1)) := by rw [Nat.pow_succ]; exact pk_mul (3 ^ k) 3
    rw [f_X5_likelyNow_5, if_neg (show ¬ (7 : Int32) ≤ nI k from nI_ge (b := 7) (by omega) (by decide)), e, nI_1]
    exact ih g (k + 1) (by omega) (by omega)
theorem lnow_eq {V : Nat → Nat → Int32} {x2 : Int32} {c p : Nat} (hc : c < 8) (h34 : V 34 c = nI p) (hp : p ≤ 2187) (L : Nat → Int64) : f_X5_likelyNow V L (nI c) x2 = if x2 = 0 then some (nI (p / Nat.gcd p (3 ^ 7))) else some (nI (3 ^ 7 / Nat.gcd p (3 ^ 7))) := by
  unfold f_X5_likelyNow
  exact lnow_loop hc h34 hp 7 20000 0 (by omega) (by omega)
section
variable {n T B Y G : Nat}
theorem wy_le (c : Nat) : ∀ (m : Nat) (st : Nat × Nat × Nat × Bool), wy n T B Y G c m st ≤ 3 ^ m := by
  intro m
  induction m with
  | zero =>
    intro st
    rw [wy]
    split
    · exact Nat.le_refl _
    · exact Nat.zero_le _
  | succ m ih =>
    intro st
    rw [wy]
    split
    · have h1 := ih (cnt n T B Y G st 1).2
      have h2 := ih (cnt n T B Y G st 2).2
      have h3 := ih (cnt n T B Y G st 3).2
      rw [Nat.pow_succ]
      omega
    · split
      · exact Nat.le_refl _
      · exact Nat.zero_le _
theorem wy_no {c : Nat} {st : Nat × Nat × Nat × Bool} (h : canB st.1 B = false) : ∀ m, wy n T B Y G c m st = if st.1 = 2 ^ c then 3 ^ m else 0 := by
  intro m
  cases m with
  | zero => rfl
  | succ m => rw [wy, h]; rfl
/-- what changes in the class while shares are dealt out -/
def FW (V W : Nat → Nat → Int32) : Prop := ∀ a, a ≠ 16 → a ≠ 18 → W a = V a
theorem FW.rf (V : Nat → Nat → Int32) : FW V V := fun _ _ _ => rfl
theorem FW.tr {V W U : Nat → Nat → Int32} (h : FW V W) (g : FW W U) : FW V U := fun a h1 h2 => (g a h1 h2).trans (h a h1 h2)
theorem FW.st (V : Nat → Nat → Int32) (c : Nat → Int32) : FW V (setc V 16 c) := fun _ h _ => setc_ne V c h
def ShOk (n T B Y G : Nat) (rc : (Nat → Nat → Int32) → (Nat → Int64) → Int32 → Int32 → Option ((Nat → Nat → Int32) × (Nat → Int64))) (x1 x2 : Int32) (m : Nat) : Prop :=
  ∀ (V : Nat → Nat → Int32) (L : Nat → Int64) (st : Nat × Nat × Nat × Bool) (P : Nat → Nat), CiS (V 16) n T B Y G st → Sok n st → (∀ c, c < 8 → V 18 c = nI (P c)) → ∃ W, rc V L x1 x2 = some (W, L) ∧ CiS (W 16) n T B Y G st ∧ FW V W ∧ ∀ c, c < 8 → W 18 c = nI (P c + wy n T B Y G c m st)
theorem share_leaf {rc : (Nat → Nat → Int32) → (Nat → Int64) → Int32 → Int32 → Option ((Nat → Nat → Int32) × (Nat → Int64))} {V : Nat → Nat → Int32} {L : Nat → Int64} {st : Nat × Nat × Nat × Bool} {P : Nat → Nat} {z : Nat} (hn : n ≤ 8) (hC : CiS (V 16) n T B Y G st) (hs : Sok n st) (hP : ∀ c, c < 8 → V 18 c = nI (P c)) :
    ∃ W, f_X1_shareOut_16 rc V L (nI z) = some (W, L) ∧ CiS (W 16) n T B Y G st ∧ FW V W ∧ ∀ c, c < 8 → W 18 c = nI (P c + if st.1 = 2 ^ c then z else 0) := by
  unfold f_X1_shareOut_16
  rw [onlyOne_eq hC.2.2.2.2.2.1 (show n ≤ 9 by omega) hs.1]
  rcases one_or (lt256 hn hs.1) with ⟨i, hi, e1, e2⟩ | ⟨e1, e2⟩
  · rw [e1, if_neg (nI_pos (by omega)), if_neg (show ¬ (8 : Int32) ≤ nI i from nI_ge (b := 8) hi (by decide)), if_pos (ib_nI hi (by decide)), if_pos (ib_nI hi (by decide)), nI_clamp (by omega), hP i hi, nI_add, bnd_e]
    refine ⟨_, rfl, hC, fun a _ h => setc_ne V _ h, fun c hc => ?_⟩
    rw [up2_at, if_pos rfl, e2]
    by_cases h : c = i
    · rw [if_pos h, if_pos (by rw [h]), h]
    · rw [if_neg h, if_neg (fun e => h (two_inj e).symm), hP c hc, Nat.add_zero]
  · rw [e1, if_pos (by decide)]
    refine ⟨V, rfl, hC, FW.rf V, fun c hc => ?_⟩
    rw [if_neg (e2 c hc), hP c hc, Nat.add_zero]
theorem share_step {rc : (Nat → Nat → Int32) → (Nat → Int64) → Int32 → Int32 → Option ((Nat → Nat → Int32) × (Nat → Int64))} {V : Nat → Nat → Int32} {L : Nat → Int64} {st : Nat × Nat × Nat × Bool} {P : Nat → Nat} {m d : Nat} (hn : n ≤ 8) (hC : CiS (V 16) n T B Y G st) (hs : Sok n st) (hP : ∀ c, c < 8 → V 18 c = nI (P c)) (hc : canB st.1 B = true) (hm : m + 1 ≤ 7) (hrc : ShOk n T B Y G rc (nI (3 ^ m)) (nI (d + 1)) m) {b : Nat} (hb : 1 ≤ b) (hb3 : b ≤ 3) :
    ∃ W, CiS (W 16) n T B Y G st ∧ FW V W ∧ (∀ c, c < 8 → W 18 c = nI (P c + wy n T B Y G c m (cnt n T B Y G st b).2)) ∧ ∀ g, f_X1_shareOut_59 rc (nI (3 ^ (m + 1))) (nI d) (nI (poseN st)) (g + 1) V L (nI b) = f_X1_shareOut_59 rc (nI (3 ^ (m + 1))) (nI d) (nI (poseN st)) g W L (nI (b + 1)) := by
  obtain ⟨c2, p1, p2⟩ := putOut_eq hC (show n ≤ 9 by omega) hs hb (show b ≤ 99 by omega) hc
  have hok := cnt_ok (T := T) (B := B) (Y := Y) (G := G) (beats := b) hs
  have hI := lt256 hn hs.1
  have hS := lt256 hn hs.2.1
  have hf := hs.2.2
  have hpw := pow3 3 (by omega) (m + 1) hm
  have e2 : nI (3 ^ (m + 1)) / (3 : Int32) = nI (3 ^ m) := by
    rw [show nI (3 ^ (m + 1)) / (3 : Int32) = nI (3 ^ (m + 1) / 3) from pk_div (d := 3) (by omega) (by decide) (by decide), pow_div (by omega)]
  obtain ⟨U, u1, u2, u3, u4⟩ := hrc (setc V 16 c2) L _ P p2 hok.2 hP
  refine ⟨setc U 16 (f_X0_takePose (U 16) (nI (poseN st))), ?_, ((FW.st V c2).tr u3).tr (FW.st U _), u4, fun g => ?_⟩
  · rw [setc_at]
    exact takePose_eq u2 (by omega) (by omega) (by omega)
  · rw [f_X1_shareOut_59, if_neg (show ¬ (3 : Int32) < nI b from nI_nlt (a := 3) (by omega) (by decide)), p1, bd2_s, bnd_e, e2, nI_1, u1, bd2_s, bnd_e, nI_1]
theorem share_eq (hn : n ≤ 8) : ∀ (m d fuel : Nat), d + m = 7 → m < fuel → ShOk n T B Y G (f_X1_shareOut fuel) (nI (3 ^ m)) (nI d) m := by
  intro m
  induction m with
  | zero =>
    intro d fuel hd hf V L st P hC hs hP
    obtain ⟨g, rfl⟩ : ∃ g, fuel = g + 1 := ⟨fuel - 1, by omega⟩
    have hd7 : d = 7 := by omega
    subst hd7
    obtain ⟨W, w1, w2, w3, w4⟩ := share_leaf (rc := f_X1_shareOut g) (L := L) (z := 3 ^ 0) hn hC hs hP
    refine ⟨W, ?_, w2, w3, fun c hc => ?_⟩
    · rw [f_X1_shareOut]
      unfold f_X1_shareOut_e
      rw [if_pos (show (7 : Int32) ≤ nI 7 by decide)]
      exact w1
    · rw [w4 c hc]
      rfl
  | succ m ih =>
    intro d fuel hd hf V L st P hC hs hP
    obtain ⟨g, rfl⟩ : ∃ g, fuel = g + 1 := ⟨fuel - 1, by omega⟩
    have hI := lt256 hn hs.1
    have hS := lt256 hn hs.2.1
    have hff := hs.2.2
    have hrc := ih (d + 1) g (by omega) (by omega)
    rw [f_X1_shareOut]
    unfold f_X1_shareOut_e
    rw [if_neg (show ¬ (7 : Int32) ≤ nI d from nI_ge (b := 7) (by omega) (by decide)), canCount_eq hC.2.2.1 hC.2.2.2.2.2.1 (show n ≤ 9 by omega) hs.1]
    cases hc : canB st.1 B with
    | false =>
      obtain ⟨W, w1, w2, w3, w4⟩ := share_leaf (rc := f_X1_shareOut g) (L := L) (z := 3 ^ (m + 1)) hn hC hs hP
      rw [if_pos (show bz false = 0 from rfl)]
      refine ⟨W, w1, w2, w3, fun c hcc => ?_⟩
      rw [w4 c hcc, wy_no hc]
    | true =>
      rw [if_neg (show ¬ bz true = 0 by decide), pose_eq hC (by omega) (by omega) (by omega)]
      obtain ⟨W1, a1, a2, a3, a4⟩ := share_step (L := L) hn hC hs hP hc (by omega) hrc (b := 1) (by omega) (by omega)
      obtain ⟨W2, b1, b2, b3, b4⟩ := share_step (L := L) hn a1 hs a3 hc (by omega) hrc (b := 2) (by omega) (by omega)
      obtain ⟨W3, c1, c2, c3, c4⟩ := share_step (L := L) hn b1 hs b3 hc (by omega) hrc (b := 3) (by omega) (by omega)
      refine ⟨W3, ?_, c1, (a2.tr b2).tr c2, fun c hcc => ?_⟩
      · have h1 := a4 19999
        have h2 := b4 19998
        have h3 := c4 19997
        have h4 : f_X1_shareOut_59 (f_X1_shareOut g) (nI (3 ^ (m + 1))) (nI d) (nI (poseN st)) 19997 W3 L (nI 4) = some (W3, L) := by
          rw [show (19997 : Nat) = 19996 + 1 from rfl, f_X1_shareOut_59, if_pos (by decide)]
        exact h1.trans (h2.trans (h3.trans h4))
      · rw [c3 c hcc, wy, if_pos hc]
        congr 1
        omega
end
theorem reset18 (x1 x2 : Int32) (y3 : Int64) (L : Nat → Int64) : ∀ (m fuel j : Nat) (V : Nat → Nat → Int32), (∀ i, i < j → V 18 i = 0) → j + m = 8 → m < fuel →
    ∃ W, (∀ i, i < 8 → W 18 i = 0) ∧ (∀ a, a ≠ 18 → W a = V a) ∧ f_X1_chanceOf_23 x1 x2 y3 fuel V L (nI j) = f_X1_chanceOf_23 x1 x2 y3 1 W L (nI 8) := by
  intro m
  induction m with
  | zero =>
    intro fuel j V hz hj hf
    obtain ⟨g, rfl⟩ : ∃ g, fuel = g + 1 := ⟨fuel - 1, by omega⟩
    have hj8 : j = 8 := by omega
    subst hj8
    refine ⟨V, hz, fun _ _ => rfl, ?_⟩
    rw [f_X1_chanceOf_23, show (1 : Nat) = 0 + 1 from rfl, f_X1_chanceOf_23, if_pos (show (8 : Int32) ≤ nI 8 by decide), if_pos (show (8 : Int32) ≤ nI 8 by decide)]
  | succ m ih =>
    intro fuel j V hz hj hf
    obtain ⟨g, rfl⟩ : ∃ g, fuel = g + 1 := ⟨fuel - 1, by omega⟩
    obtain ⟨W, w1, w2, w3⟩ := ih g (j + 1) (up2 V 18 j 0) (fun i hi => by
      rw [up2_at, if_pos rfl]
      by_cases e : i = j
      · rw [if_pos e]
      · rw [if_neg e]
        exact hz i (by omega)) (by omega) (by omega)
    refine ⟨W, w1, fun a ha => (w2 a ha).trans (setc_ne V _ ha), ?_⟩
    rw [f_X1_chanceOf_23, if_neg (show ¬ (8 : Int32) ≤ nI j from nI_ge (b := 8) (by omega) (by decide)), if_pos (ib_nI (show j < 8 by omega) (by decide)), nI_clamp (by omega), bnd_e, nI_1]
    exact w3
section
variable {N s : Nat} {q : Nat → Nat} {ρ n : Nat} {K : Nat → Nat} {T B Y G : Nat} {st : Nat × Nat × Nat × Bool} {nv : Nat} {bt : Nat → Nat} {ct sn : Nat} {sf so : Nat → Nat} {V : Nat → Nat → Int32} {L : Nat → Int64} {V2 : Nat → Nat → Int32}
theorem ch74 {c p : Nat} (hc : c < 8) (h18 : V 18 c = nI p) (hp : p ≤ 2187) (x2 : Int32) : f_X1_chanceOf_74 V L (nI c) x2 = if x2 = 0 then some (nI (3 ^ 7 / Nat.gcd p (3 ^ 7)), V, L) else some (nI (p / Nat.gcd p (3 ^ 7)), V, L) := by
  unfold f_X1_chanceOf_74
  rw [if_neg (nI_pos (by omega)), if_neg (show ¬ (8 : Int32) ≤ nI c from nI_ge (b := 8) hc (by decide)), if_pos (ib_nI hc (by decide)), nI_clamp (by omega), h18]
  exact red_loop 7 20000 0 p (by omega) (by omega) hp
/-- the class's chance: what it answers, and what it leaves -/
theorem chance_eq (h : RelX N s q ρ n K T B Y G st nv bt ct sn sf so V L V2) {c : Nat} (hc : c < n) (x2 : Int32) : ∃ W L1, FC V W ∧ RCa W L1 ∧ f_X1_chanceOf V L (nI c) x2 = if x2 = 0 then some (nI (3 ^ 7 / Nat.gcd (wy n T B Y G c 7 st) (3 ^ 7)), W, L1) else some (nI (wy n T B Y G c 7 st / Nat.gcd (wy n T B Y G c 7 st) (3 ^ 7)), W, L1) := by
  obtain ⟨h1, h2, h3, h4, h5, h6, h7, h8, h9⟩ := h
  have hn := h7.le
  obtain ⟨a1, a2, a3⟩ := h7.ok (by omega)
  have hb := h3.2.2.2
  have bnds : n ≤ 8 ∧ T < 2 ^ n ∧ B < 2 ^ n ∧ Y < 2 ^ n ∧ G < 2 ^ n ∧ Sok n st := ⟨hn, hb.1, hb.2.1, hb.2.2.1, hb.2.2.2.1, a2⟩
  have hk := key_eq h3.1 hn hb.1 hb.2.1 hb.2.2.1 hb.2.2.2.1 a2
  have hlt := keyN_lt bnds
  have hp : wy n T B Y G c 7 st ≤ 2187 := wy_le c 7 st
  unfold f_X1_chanceOf
  rw [hk]
  by_cases hcm : lg_cmp (lN (keyN n T B Y G st)) (L 5) = 0
  · rw [if_pos hcm]
    rw [lg_cmp_eq] at hcm
    have hV : ∀ c, c < 8 → V 18 c = nI (wy n T B Y G c 7 st) := by
      rcases h9.2 with e | ⟨n', T', B', Y', G', st', b', e, hv⟩
      · rw [e] at hcm
        exact absurd hcm (keyN_m1 hlt)
      · rw [e, pk_lEQ (by omega) (by have := keyN_lt b'; omega)] at hcm
        obtain ⟨r1, r2, r3, r4, r5, r6⟩ := keyN_inj bnds b' hcm
        subst r1 r2 r3 r4 r5 r6
        exact hv
    exact ⟨V, L, FC.rf V, h9, ch74 (by omega) (hV c (by omega)) hp x2⟩
  · rw [if_neg hcm]
    obtain ⟨U, u1, u2, u3⟩ := reset18 (nI c) x2 (lN (keyN n T B Y G st)) L 8 20000 0 V (fun i hi => by omega) (by omega) (by omega)
    obtain ⟨cc, t1, t2⟩ := takeAll_eq (c := U 16) (a := U 6) (by rw [u2 6 (by decide)]; exact h3.1)
    obtain ⟨W, w1, w2, w3, w4⟩ := share_eq (n := n) (T := T) (B := B) (Y := Y) (G := G) hn 7 0 9 (by omega) (by omega) (setc U 16 cc) L st (fun _ => 0) t2 a2 (fun c hc => u1 c hc)
    have hW : ∀ a, a ≠ 16 → a ≠ 18 → W a = V a := fun a g1 g2 => by rw [w3 a g1 g2, setc_ne U cc g1, u2 a g2]
    have hsh : f_X1_shareOut 9 (setc U 16 cc) L (2187 : Int32) (0 : Int32) = some (W, L) := w1
    have hw4 : ∀ c, c < 8 → W 18 c = nI (wy n T B Y G c 7 st) := fun c hc => by rw [w4 c hc, Nat.zero_add]
    have e23 : f_X1_chanceOf_23 (nI c) x2 (lN (keyN n T B Y G st)) 1 U L (nI 8) = f_X1_chanceOf_74 W (setc L 5 (lN (keyN n T B Y G st))) (nI c) x2 := by
      rw [show (1 : Nat) = 0 + 1 from rfl, f_X1_chanceOf_23, if_pos (show (8 : Int32) ≤ nI 8 by decide), t1, bd1_s, bnd_e, hsh, bd2_s, bnd_e]
    refine ⟨W, setc L 5 (lN (keyN n T B Y G st)), ⟨by rw [hW 1 (by decide) (by decide)], fun a ha => hW a (by omega) (by omega)⟩, ⟨?_, Or.inr ⟨n, T, B, Y, G, st, bnds, rfl, hw4⟩⟩, u3.trans (e23.trans (ch74 (by omega) (hw4 c (by omega)) hp x2))⟩
    have h91 := h9.1
    rw [← hW 17 (by decide) (by decide)] at h91
    exact h91
end
