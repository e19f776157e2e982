/-! LIKELY: the reference's heap of faces -/
theorem up2_na (V : Nat → Nat → Int32) {j a : Nat} (k : Nat) (x : Int32) (h : a ≠ j) : up2 V j k x a = V a := setc_ne V _ h
theorem up2_ni (V : Nat → Nat → Int32) (j : Nat) {k i : Nat} (x : Int32) (a : Nat) (h : i ≠ k) : up2 V j k x a i = V a i := by
  rw [up2_at]
  by_cases e : a = j
  · rw [if_pos e, if_neg h, e]
  · rw [if_neg e]
theorem up2_ii (V : Nat → Nat → Int32) (j k : Nat) (x : Int32) : up2 V j k x j k = x := by rw [up2_at, if_pos rfl, if_pos rfl]
theorem set4 {V : Nat → Nat → Int32} {st : Nat × Nat × Nat × Bool} : up2 (up2 (up2 (up2 V 0 5 (nI st.1)) 0 6 (nI st.2.1)) 0 7 (nI st.2.2.1)) 0 8 (bz st.2.2.2) = setD V st := by
  funext a b
  simp only [up2_at]
  unfold setD
  by_cases ha : a = 0
  · subst ha
    by_cases e1 : b = 5
    · subst e1; rfl
    by_cases e2 : b = 6
    · subst e2; rfl
    by_cases e3 : b = 7
    · subst e3; rfl
    by_cases e4 : b = 8
    · subst e4; rfl
    simp [e1, e2, e3, e4]
  · simp [ha]
/-- four cells that hold a state -/
def H4 (V : Nat → Nat → Int32) (j i : Nat) (st : Nat × Nat × Nat × Bool) : Prop := V j i = nI st.1 ∧ V (j + 1) i = nI st.2.1 ∧ V (j + 2) i = nI st.2.2.1 ∧ V (j + 3) i = bz st.2.2.2
section
variable {n : Nat} {K : Nat → Nat} {T B Y G : Nat} {st : Nat × Nat × Nat × Bool}
theorem bz_one (o : Bool) : (bz o = 1) = (o = true) := by cases o <;> simp [bz]
theorem setDeep_eq {V : Nat → Nat → Int32} {d : Nat} (hd : d < 8) (h : H4 V 24 d st) (L : Nat → Int64) : f_X5_setDeep V L (nI d) = some (setD V st, L) := by
  obtain ⟨h1, h2, h3, h4⟩ := h
  unfold f_X5_setDeep
  have e := ib_nI hd (show 8 < 2 ^ 31 by decide)
  rw [if_pos e, nI_clamp (by omega), h1, bnd_e, if_pos e, show up2 V 0 5 (nI st.1) 25 d = nI st.2.1 from h2, bnd_e, if_pos e, show up2 (up2 V 0 5 (nI st.1)) 0 6 (nI st.2.1) 26 d = nI st.2.2.1 from h3, bnd_e, if_pos e, show up2 (up2 (up2 V 0 5 (nI st.1)) 0 6 (nI st.2.1)) 0 7 (nI st.2.2.1) 27 d = bz st.2.2.2 from h4, ← set4 (V := V) (st := st), bnd_e, bnd_e]
  cases st.2.2.2 with
  | false => rw [if_neg (show ¬ bz false = 1 by decide)]; rfl
  | true => rw [if_pos (show bz true = 1 by decide)]; rfl
theorem putDeep_eq {V : Nat → Nat → Int32} {d : Nat} (hd : d < 8) (h : V 0 5 = nI st.1 ∧ V 0 6 = nI st.2.1 ∧ V 0 7 = nI st.2.2.1 ∧ V 0 8 = bz st.2.2.2) (x : Int32) :
    ∃ W, (∀ L, f_X5_putDeep V L (nI d) x = some (W, L)) ∧ H4 W 24 d st ∧ W 28 d = x ∧ W 29 d = 0 ∧ (∀ a, a < 24 ∨ 29 < a → W a = V a) ∧ ∀ a i, i ≠ d → W a i = V a i := by
  obtain ⟨h1, h2, h3, h4⟩ := h
  have e := ib_nI hd (show 8 < 2 ^ 31 by decide)
  refine ⟨up2 (up2 (up2 (up2 (up2 (up2 V 24 d (nI st.1)) 25 d (nI st.2.1)) 26 d (nI st.2.2.1)) 27 d (bz st.2.2.2)) 28 d x) 29 d 0, fun L => ?_, ⟨?_, ?_, ?_, ?_⟩, ?_, ?_, fun a ha => ?_, fun a i hi => ?_⟩
  · unfold f_X5_putDeep f_X5_putDeep_48
    simp only [if_pos e, nI_clamp (show d < 2 ^ 31 by omega), bnd_e]
    rw [h1]
    rw [show up2 V 24 d (nI st.1) 0 6 = nI st.2.1 from h2]
    rw [show up2 (up2 V 24 d (nI st.1)) 25 d (nI st.2.1) 0 7 = nI st.2.2.1 from h3]
    rw [show up2 (up2 (up2 V 24 d (nI st.1)) 25 d (nI st.2.1)) 26 d (nI st.2.2.1) 0 8 = bz st.2.2.2 from h4]
    cases st.2.2.2 with
    | false => rw [if_pos (show bz false = 0 from rfl)]; rfl
    | true => rw [if_neg (show ¬ bz true = 0 by decide)]; rfl
  · rw [up2_na _ _ _ (by decide), up2_na _ _ _ (by decide), up2_na _ _ _ (by decide), up2_na _ _ _ (by decide), up2_na _ _ _ (by decide), up2_ii]
  · rw [up2_na _ _ _ (by decide), up2_na _ _ _ (by decide), up2_na _ _ _ (by decide), up2_na _ _ _ (by decide), up2_ii]
  · rw [up2_na _ _ _ (by decide), up2_na _ _ _ (by decide), up2_na _ _ _ (by decide), up2_ii]
  · rw [up2_na _ _ _ (by decide), up2_na _ _ _ (by decide), up2_ii]
  · rw [up2_na _ _ _ (by decide), up2_ii]
  · rw [up2_ii]
  · rw [up2_na _ _ _ (by omega), up2_na _ _ _ (by omega), up2_na _ _ _ (by omega), up2_na _ _ _ (by omega), up2_na _ _ _ (by omega), up2_na _ _ _ (by omega)]
  · rw [up2_ni _ _ _ _ hi, up2_ni _ _ _ _ hi, up2_ni _ _ _ _ hi, up2_ni _ _ _ _ hi, up2_ni _ _ _ _ hi, up2_ni _ _ _ _ hi]
theorem end27 (hn : n ≤ 8) (hs : Sok n st) {z : Nat} :
    ∀ (m fuel c : Nat) (V : Nat → Nat → Int32) (P : Nat → Nat), V 0 1 = nI n → V 0 5 = nI st.1 → (∀ i, i < 8 → V 34 i = nI (P i)) → c + m = n → m < fuel →
      ∃ W, (∀ L, f_X5_endDeep_27 (nI z) fuel V L (nI c) = some (W, L)) ∧ (∀ a, a ≠ 34 → W a = V a) ∧ ∀ i, i < 8 → W 34 i = nI (P i + if c ≤ i ∧ st.1 = 2 ^ i then z else 0) := by
  have hI := lt256 hn hs.1
  intro m
  induction m with
  | zero =>
    intro fuel c V P h1 h5 hP hc hf
    obtain ⟨g, rfl⟩ : ∃ g, fuel = g + 1 := ⟨fuel - 1, by omega⟩
    refine ⟨V, fun L => ?_, fun _ _ => rfl, fun i hi => ?_⟩
    · rw [f_X5_endDeep_27, h1, if_pos (nI_le (by omega) (by omega))]
    · rw [if_neg, hP i hi, Nat.add_zero]
      rintro ⟨g1, g2⟩
      have g3 := Nat.pow_le_pow_right (show 0 < 2 by decide) (show n ≤ i by omega)
      have g4 := hs.1
      rw [g2] at g4
      exact absurd g4 (Nat.not_lt.mpr g3)
  | succ m ih =>
    intro fuel c V P h1 h5 hP hc hf
    obtain ⟨g, rfl⟩ : ∃ g, fuel = g + 1 := ⟨fuel - 1, by omega⟩
    have hpc : 2 ^ c < 256 := lt256 hn (pow_lt (show c < n by omega))
    have e8 := ib_nI (show c < 8 by omega) (show 8 < 2 ^ 31 by decide)
    have hcase : (nI st.1 = ishl (1 : Int32) (nI c)) = (st.1 = 2 ^ c) := by
      rw [ishl_one c (by omega)]
      exact propext (nI_eq (by omega) (by omega))
    obtain ⟨W, w1, w2, w3⟩ := ih g (c + 1) (up2 V 34 c (nI (P c + if st.1 = 2 ^ c then z else 0))) (fun i => if i = c then P c + (if st.1 = 2 ^ c then z else 0) else P i) h1 h5 (fun i hi => by
      rw [up2_at, if_pos rfl]
      by_cases e : i = c
      · rw [if_pos e, if_pos e]
      · rw [if_neg e, if_neg e, hP i hi]) (by omega) (by omega)
    refine ⟨W, fun L => ?_, fun a ha => (w2 a ha).trans (up2_na V _ _ ha), fun i hi => ?_⟩
    · rw [f_X5_endDeep_27, h1, if_neg (nI_ge (show c < n by omega) (by omega)), if_pos e8, if_pos e8, if_pos e8, nI_clamp (by omega), h5, hP c (by omega), nI_add, bnd_e, bnd_e, nI_1]
      have w1' := w1 L
      by_cases h : st.1 = 2 ^ c
      · rw [if_pos (by rw [hcase]; exact h)]
        rw [if_pos h] at w1'
        exact w1'
      · rw [if_neg (by rw [hcase]; exact h)]
        rw [if_neg h, ← nI_add] at w1'
        exact w1'
    · rw [w3 i hi]
      congr 1
      by_cases e : i = c
      · subst e
        rw [if_pos rfl, if_neg (show ¬ (i + 1 ≤ i ∧ st.1 = 2 ^ i) from fun q => absurd q.1 (by omega)), Nat.add_zero]
        by_cases h : st.1 = 2 ^ i
        · rw [if_pos h, if_pos ⟨Nat.le_refl _, h⟩]
        · rw [if_neg h, if_neg (fun q => h q.2)]
      · rw [if_neg e]
        by_cases h : c + 1 ≤ i ∧ st.1 = 2 ^ i
        · rw [if_pos h, if_pos ⟨by omega, h.2⟩]
        · rw [if_neg h, if_neg (fun q => h ⟨by omega, q.2⟩)]
theorem end9 {V : Nat → Nat → Int32} {L : Nat → Int64} {w d : Nat} : ∀ (m fuel k : Nat), k + m = 7 → m < fuel → d ≤ k → f_X5_endDeep_9 V L fuel (nI (w * 3 ^ (k - d))) (nI k) = f_X5_endDeep_27 (nI (w * 3 ^ (7 - d))) 20000 V L 0 := by
  intro m
  induction m with
  | zero =>
    intro fuel k hk hf hd
    obtain ⟨g, rfl⟩ : ∃ g, fuel = g + 1 := ⟨fuel - 1, by omega⟩
    rw [f_X5_endDeep_9, if_pos (show (7 : Int32) ≤ nI k from nI_le (a := 7) (by omega) (by omega)), show k = 7 by omega]
  | succ m ih =>
    intro fuel k hk hf hd
    obtain ⟨g, rfl⟩ : ∃ g, fuel = g + 1 := ⟨fuel - 1, by omega⟩
    have e : nI (w * 3 ^ (k - d)) * (3 : Int32) = nI (w * 3 ^ (k + 1 - d)) := by
      rw [show k + 1 - d = (k - d) + 1 by omega, Nat.pow_succ, ← Nat.mul_assoc]
      exact pk_mul _ 3
    rw [f_X5_endDeep_9, if_neg (show ¬ (7 : Int32) ≤ nI k from nI_ge (b := 7) (by omega) (by decide)), e, nI_1]
    exact ih g (k + 1) (by omega) (by omega) (by omega)
/-- what is left as it was above a depth -/
def FS (d : Nat) (V W : Nat → Nat → Int32) : Prop := (∀ x, x ≠ 5 → x ≠ 6 → x ≠ 7 → x ≠ 8 → W 0 x = V 0 x) ∧ (∀ a, 0 < a → a < 24 ∨ 34 < a → W a = V a) ∧ (∀ a i, 24 ≤ a → a ≤ 29 → i < d → W a i = V a i) ∧ ∀ a i, 30 ≤ a → a ≤ 33 → i < 3 * d → W a i = V a i
theorem FS.rf (d : Nat) (V : Nat → Nat → Int32) : FS d V V := ⟨fun _ _ _ _ _ => rfl, fun _ _ _ => rfl, fun _ _ _ _ _ => rfl, fun _ _ _ _ _ => rfl⟩
theorem FS.tr {d : Nat} {V W U : Nat → Nat → Int32} (h : FS d V W) (g : FS d W U) : FS d V U := ⟨fun x h5 h6 h7 h8 => (g.1 x h5 h6 h7 h8).trans (h.1 x h5 h6 h7 h8), fun a h1 h2 => (g.2.1 a h1 h2).trans (h.2.1 a h1 h2), fun a i h1 h2 h3 => (g.2.2.1 a i h1 h2 h3).trans (h.2.2.1 a i h1 h2 h3), fun a i h1 h2 h3 => (g.2.2.2 a i h1 h2 h3).trans (h.2.2.2 a i h1 h2 h3)⟩
theorem FS.le {d e : Nat} {V W : Nat → Nat → Int32} (h : FS e V W) (hd : d ≤ e) : FS d V W := ⟨h.1, h.2.1, fun a i h1 h2 h3 => h.2.2.1 a i h1 h2 (by omega), fun a i h1 h2 h3 => h.2.2.2 a i h1 h2 (by omega)⟩
theorem Mb.fs {d : Nat} {V W : Nat → Nat → Int32} (h : Mb V n K) (g : FS d V W) : Mb W n K := ⟨by rw [g.1 1 (by decide) (by decide) (by decide) (by decide)]; exact h.1, fun i hi => by rw [g.2.1 4 (by decide) (by omega)]; exact h.2 i hi⟩
theorem enter_leaf (hn : n ≤ 8) (hB : KB n K T B Y G) {V : Nat → Nat → Int32} {d w : Nat} {P : Nat → Nat} (hd : d ≤ 7) (hA : A2 V n K st) (hs : Sok n st) (hc : canB st.1 B = false) (hP : ∀ c, c < 8 → V 34 c = nI (P c)) :
    ∃ W, (∀ L, f_X5_enter V L (nI d) (nI w) = some (W, L)) ∧ FS d V W ∧ W 29 d = nI 3 ∧ ∀ c, c < 8 → W 34 c = nI (P c + if st.1 = 2 ^ c then w * 3 ^ (7 - d) else 0) := by
  obtain ⟨U, u1, u2, u3, u4, u5, u6⟩ := putDeep_eq (show d < 8 by omega) hA.1 (nI w)
  have hAU : A2 U n K st := by
    refine ⟨?_, ?_, fun i hi => ?_⟩
    · rw [u5 0 (by omega)]; exact hA.1
    · rw [u5 0 (by omega)]; exact hA.2.1
    · rw [u5 4 (by omega)]; exact hA.2.2 i hi
  obtain ⟨W, w1, w2, w3⟩ := end27 (z := w * 3 ^ (7 - d)) hn hs n 20000 0 U P hAU.2.1 hAU.1.1 (fun i hi => by rw [u5 34 (by omega)]; exact hP i hi) (by omega) (by omega)
  have e8 := ib_nI (show d < 8 by omega) (show 8 < 2 ^ 31 by decide)
  refine ⟨up2 W 29 d 3, fun L => ?_, ⟨fun x _ _ _ _ => ?_, fun a h1 h2 => ?_, fun a i h1 h2 h3 => ?_, fun a i h1 h2 h3 => ?_⟩, up2_ii _ _ _ _, fun c hcc => ?_⟩
  · have hi := isCount_eq (L := L) hAU.2 (show n ≤ 9 by omega) hs hB
    rw [hAU.sd, hc] at hi
    have h9 := end9 (V := U) (L := L) (w := w) (d := d) (7 - d) 20000 d (by omega) (by omega) (by omega)
    rw [Nat.sub_self, Nat.pow_zero, Nat.mul_one] at h9
    have hend : f_X5_endDeep U L (nI d) = some (W, L) := by
      unfold f_X5_endDeep
      rw [if_pos e8, nI_clamp (by omega), u3]
      exact h9.trans (w1 L)
    unfold f_X5_enter
    rw [u1 L, bd2_s, hi, bd1_s, if_pos (show bz false = 0 from rfl), hend, bd2_s, if_pos e8, nI_clamp (by omega), bnd_e]
  · rw [up2_na _ _ _ (by decide), w2 0 (by decide), u5 0 (by omega)]
  · rw [up2_na _ _ _ (by omega), w2 a (by omega), u5 a (by omega)]
  · rw [up2_ni _ _ _ _ (by omega), w2 a (by omega), u6 a i (by omega)]
  · rw [up2_na _ _ _ (by omega), w2 a (by omega), u5 a (by omega)]
  · rw [up2_na _ _ _ (by decide), w3 c hcc]
    congr 2
    simp
theorem faces_loop (hn : n ≤ 8) (hB : KB n K T B Y G) (hs : Sok n st) (hc : canB st.1 B = true) {d : Nat} (hd : d ≤ 7) :
    ∀ (m fuel f : Nat) (V : Nat → Nat → Int32), Mb V n K → H4 V 24 d st → (∀ e, e < f → H4 V 30 (3 * d + e) (cnt n T B Y G st (e + 1)).2) → f + m = 3 → m < fuel →
      ∃ W, (∀ L, f_X5_layFaces_2 (nI d) fuel V L (nI f) = some (W, L)) ∧ (∀ e, e < 3 → H4 W 30 (3 * d + e) (cnt n T B Y G st (e + 1)).2) ∧ (∀ x, x ≠ 5 → x ≠ 6 → x ≠ 7 → x ≠ 8 → W 0 x = V 0 x) ∧ (∀ a, 0 < a → a < 30 ∨ 33 < a → W a = V a) ∧ ∀ a i, 0 < a → i < 3 * d → W a i = V a i := by
  intro m
  induction m with
  | zero =>
    intro fuel f V hM hD hF hf hfu
    obtain ⟨g, rfl⟩ : ∃ g, fuel = g + 1 := ⟨fuel - 1, by omega⟩
    refine ⟨V, fun L => ?_, fun e he => hF e (by omega), fun _ _ _ _ _ => rfl, fun _ _ _ => rfl, fun _ _ _ _ => rfl⟩
    rw [f_X5_layFaces_2, if_pos (show (3 : Int32) ≤ nI f from nI_le (a := 3) (by omega) (by omega))]
  | succ m ih =>
    intro fuel f V hM hD hF hf hfu
    obtain ⟨g, rfl⟩ : ∃ g, fuel = g + 1 := ⟨fuel - 1, by omega⟩
    have hg := fun L => goCount_eq (L := L) hM (show n ≤ 9 by omega) hs hB (beats := f + 1) (by omega) (by omega) hc
    generalize hk : 3 * d + f = k
    have hk24 : k < 24 := by omega
    have e24 := ib_nI hk24 (show 24 < 2 ^ 31 by decide)
    have ek : (3 : Int32) * nI d + nI f = nI k := by rw [← hk, ← nI_add, ← pk_mul]; rfl
    generalize ho : cnt n T B Y G st (f + 1) = o at hg
    obtain ⟨W, w1, w2, w3, w4, w5⟩ := ih g (f + 1) (up2 (up2 (up2 (up2 (setD V o.2) 30 k (nI o.2.1)) 31 k (nI o.2.2.1)) 32 k (nI o.2.2.2.1)) 33 k (bz o.2.2.2.2)) hM hD (fun e he => by
      by_cases hef : e = f
      · subst hef
        rw [hk, ho]
        refine ⟨?_, ?_, ?_, ?_⟩
        · rw [up2_na _ _ _ (by decide), up2_na _ _ _ (by decide), up2_na _ _ _ (by decide), up2_ii]
        · rw [up2_na _ _ _ (by decide), up2_na _ _ _ (by decide), up2_ii]
        · rw [up2_na _ _ _ (by decide), up2_ii]
        · rw [up2_ii]
      · have hne : 3 * d + e ≠ k := by omega
        obtain ⟨q1, q2, q3, q4⟩ := hF e (by omega)
        refine ⟨?_, ?_, ?_, ?_⟩
        · rw [up2_ni _ _ _ _ hne, up2_ni _ _ _ _ hne, up2_ni _ _ _ _ hne, up2_ni _ _ _ _ hne, setD_a _ (by decide)]; exact q1
        · rw [up2_ni _ _ _ _ hne, up2_ni _ _ _ _ hne, up2_ni _ _ _ _ hne, up2_ni _ _ _ _ hne, setD_a _ (by decide)]; exact q2
        · rw [up2_ni _ _ _ _ hne, up2_ni _ _ _ _ hne, up2_ni _ _ _ _ hne, up2_ni _ _ _ _ hne, setD_a _ (by decide)]; exact q3
        · rw [up2_ni _ _ _ _ hne, up2_ni _ _ _ _ hne, up2_ni _ _ _ _ hne, up2_ni _ _ _ _ hne, setD_a _ (by decide)]; exact q4) (by omega) (by omega)
    refine ⟨W, fun L => ?_, w2, fun x h5 h6 h7 h8 => ?_, fun a h1 h2 => ?_, fun a i h1 h2 => ?_⟩
    · rw [f_X5_layFaces_2, if_neg (show ¬ (3 : Int32) ≤ nI f from nI_ge (b := 3) (by omega) (by decide)), setDeep_eq (show d < 8 by omega) hD L, bd2_s, nI_1, hg L, bd3_s, ek]
      simp only [if_pos e24, nI_clamp (show k < 2 ^ 31 by omega), bnd_e]
      have w1' := w1 L
      obtain ⟨o1, I, S, f', oo⟩ := o
      cases oo with
      | false => exact (if_pos rfl).trans w1'
      | true => exact (if_neg (show ¬ bz true = 0 by decide)).trans w1'
    · rw [w3 x h5 h6 h7 h8, up2_na _ _ _ (by decide), up2_na _ _ _ (by decide), up2_na _ _ _ (by decide), up2_na _ _ _ (by decide), setD_f x h5 h6 h7 h8]
    · rw [w4 a h1 h2, up2_na _ _ _ (by omega), up2_na _ _ _ (by omega), up2_na _ _ _ (by omega), up2_na _ _ _ (by omega), setD_a a (by omega)]
    · have hne : i ≠ k := by omega
      rw [w5 a i h1 h2, up2_ni _ _ _ _ hne, up2_ni _ _ _ _ hne, up2_ni _ _ _ _ hne, up2_ni _ _ _ _ hne, setD_a a (by omega)]
theorem enter_inner (hn : n ≤ 8) (hB : KB n K T B Y G) {V : Nat → Nat → Int32} {d w : Nat} (hd : d ≤ 7) (hA : A2 V n K st) (hs : Sok n st) (hc : canB st.1 B = true) :
    ∃ W, (∀ L, f_X5_enter V L (nI d) (nI w) = some (W, L)) ∧ FS d V W ∧ W 29 d = nI 0 ∧ W 28 d = nI w ∧ W 34 = V 34 ∧ ∀ e, e < 3 → H4 W 30 (3 * d + e) (cnt n T B Y G st (e + 1)).2 := by
  obtain ⟨U, u1, u2, u3, u4, u5, u6⟩ := putDeep_eq (show d < 8 by omega) hA.1 (nI w)
  have hAU : A2 U n K st := by
    refine ⟨?_, ?_, fun i hi => ?_⟩
    · rw [u5 0 (by omega)]; exact hA.1
    · rw [u5 0 (by omega)]; exact hA.2.1
    · rw [u5 4 (by omega)]; exact hA.2.2 i hi
  obtain ⟨W, w1, w2, w3, w4, w5⟩ := faces_loop hn hB hs hc hd 3 20000 0 U hAU.2 u2 (fun e he => by omega) (by omega) (by omega)
  refine ⟨W, fun L => ?_, ⟨fun x h5 h6 h7 h8 => ?_, fun a h1 h2 => ?_, fun a i h1 h2 h3 => ?_, fun a i h1 h2 h3 => ?_⟩, ?_, ?_, ?_, w2⟩
  · have hi := isCount_eq (L := L) hAU.2 (show n ≤ 9 by omega) hs hB
    rw [hAU.sd, hc] at hi
    have hl : f_X5_layFaces U L (nI d) = some (W, L) := w1 L
    unfold f_X5_enter
    rw [u1 L, bd2_s, hi, bd1_s, if_neg (show ¬ bz true = 0 by decide), hl, bd2_s]
  · rw [w3 x h5 h6 h7 h8, u5 0 (by omega)]
  · rw [w4 a h1 (by omega), u5 a (by omega)]
  · rw [w4 a (by omega) (by omega), u6 a i (by omega)]
  · rw [w5 a i (by omega) h3, u5 a (by omega)]
  · rw [w4 29 (by decide) (by omega), u4]; rfl
  · rw [w4 28 (by decide) (by omega), u3]
  · rw [w4 34 (by decide) (by omega), u5 34 (by omega)]
end
