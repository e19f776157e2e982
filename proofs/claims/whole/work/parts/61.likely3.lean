/-! LIKELY: the reference's walk -/
section
variable {n : Nat} {K : Nat → Nat} {T B Y G : Nat} {st : Nat × Nat × Nat × Bool}
theorem alike_eq {V : Nat → Nat → Int32} {L : Nat → Int64} {k1 k2 : Nat} {s1 s2 : Nat × Nat × Nat × Bool} (hn : n ≤ 8) (hk1 : k1 < 24) (hk2 : k2 < 24) (h1 : H4 V 30 k1 s1) (h2 : H4 V 30 k2 s2) (g1 : Sok n s1) (g2 : Sok n s2) : f_X5_areAlike V L (nI k1) (nI k2) = some (if s1 = s2 then 1 else 0) := by
  obtain ⟨I1, S1, f1, o1⟩ := s1
  obtain ⟨I2, S2, f2, o2⟩ := s2
  have a1 : I1 < 256 := lt256 hn g1.1
  have a2 : I2 < 256 := lt256 hn g2.1
  have b1 : S1 < 256 := lt256 hn g1.2.1
  have b2 : S2 < 256 := lt256 hn g2.2.1
  have c1 : f1 < n := g1.2.2
  have c2 : f2 < n := g2.2.2
  have e1 := ib_nI hk1 (show 24 < 2 ^ 31 by decide)
  have e2 := ib_nI hk2 (show 24 < 2 ^ 31 by decide)
  obtain ⟨p1, p2, p3, p4⟩ := h1
  obtain ⟨q1, q2, q3, q4⟩ := h2
  have p1' : V 30 k1 = nI I1 := p1
  have p2' : V 31 k1 = nI S1 := p2
  have p3' : V 32 k1 = nI f1 := p3
  have p4' : V 33 k1 = bz o1 := p4
  have q1' : V 30 k2 = nI I2 := q1
  have q2' : V 31 k2 = nI S2 := q2
  have q3' : V 32 k2 = nI f2 := q3
  have q4' : V 33 k2 = bz o2 := q4
  unfold f_X5_areAlike
  simp only [if_pos e1, if_pos e2, nI_clamp (show k1 < 2 ^ 31 by omega), nI_clamp (show k2 < 2 ^ 31 by omega), p1', p2', p3', p4', q1', q2', q3', q4']
  by_cases i : I1 = I2
  · subst i
    rw [if_pos rfl]
    by_cases i : S1 = S2
    · subst i
      rw [if_pos rfl]
      by_cases i : f1 = f2
      · subst i
        rw [if_pos rfl]
        by_cases i : o1 = o2
        · subst i
          rw [if_pos rfl, if_pos rfl]
        · rw [if_neg (fun e => i (by revert e; cases o1 <;> cases o2 <;> decide)), if_neg (fun e => i (by injection e with _ e; injection e with _ e; injection e with _ e))]
      · rw [if_neg (fun e => i ((nI_eq (by omega) (by omega)).mp e)), if_neg (fun e => i (by injection e with _ e; injection e with _ e; injection e with e _))]
    · rw [if_neg (fun e => i ((nI_eq (by omega) (by omega)).mp e)), if_neg (fun e => i (by injection e with _ e; injection e with e _))]
  · rw [if_neg (fun e => i ((nI_eq (by omega) (by omega)).mp e)), if_neg (fun e => i (by injection e with e _))]
/-- how many faces come to the same as one; none, if an earlier one does -/
def lkF (s : Nat → Nat × Nat × Nat × Bool) (f : Nat) : Nat := if f = 0 then 1 + (if s 0 = s 1 then 1 else 0) + (if s 0 = s 2 then 1 else 0) else if f = 1 then (if s 1 = s 0 then 0 else 1 + (if s 1 = s 2 then 1 else 0)) else (if s 2 = s 0 then 0 else if s 2 = s 1 then 0 else 1)
theorem lkF_0 (s : Nat → Nat × Nat × Nat × Bool) : lkF s 0 = 1 + (if s 0 = s 1 then 1 else 0) + (if s 0 = s 2 then 1 else 0) := rfl
theorem lkF_1 (s : Nat → Nat × Nat × Nat × Bool) : lkF s 1 = (if s 1 = s 0 then 0 else 1 + (if s 1 = s 2 then 1 else 0)) := rfl
theorem lkF_2 (s : Nat → Nat × Nat × Nat × Bool) : lkF s 2 = (if s 2 = s 0 then 0 else if s 2 = s 1 then 0 else 1) := rfl
theorem lk_sum (s : Nat → Nat × Nat × Nat × Bool) (x : Nat × Nat × Nat × Bool → Nat) : lkF s 0 * x (s 0) + lkF s 1 * x (s 1) + lkF s 2 * x (s 2) = x (s 0) + x (s 1) + x (s 2) := by
  rw [lkF_0, lkF_1, lkF_2]
  by_cases h01 : s 0 = s 1
  · have y1 : x (s 0) = x (s 1) := by rw [h01]
    rw [if_pos h01, if_pos h01.symm]
    by_cases h02 : s 0 = s 2
    · have y2 : x (s 0) = x (s 2) := by rw [h02]
      rw [if_pos h02, if_pos h02.symm]
      omega
    · rw [if_neg h02, if_neg (show ¬ s 2 = s 0 from fun e => h02 e.symm), if_neg (show ¬ s 2 = s 1 from fun e => h02 (h01.trans e.symm))]
      omega
  · rw [if_neg h01, if_neg (show ¬ s 1 = s 0 from fun e => h01 e.symm)]
    by_cases h02 : s 0 = s 2
    · have y2 : x (s 0) = x (s 2) := by rw [h02]
      rw [if_pos h02, if_pos h02.symm, if_neg (show ¬ s 1 = s 2 from fun e => h01 (h02.trans e.symm))]
      omega
    · rw [if_neg h02, if_neg (show ¬ s 2 = s 0 from fun e => h02 e.symm)]
      by_cases h12 : s 1 = s 2
      · have y3 : x (s 1) = x (s 2) := by rw [h12]
        rw [if_pos h12, if_pos h12.symm]
        omega
      · rw [if_neg h12, if_neg (show ¬ s 2 = s 1 from fun e => h12 e.symm)]
        omega
theorem lkF_le (s : Nat → Nat × Nat × Nat × Bool) (f : Nat) : lkF s f ≤ 3 := by
  unfold lkF
  split
  · split <;> split <;> omega
  · split
    · split
      · omega
      · split <;> omega
    · split
      · omega
      · split <;> omega
theorem lf_step (hn : n ≤ 8) {V : Nat → Nat → Int32} {L : Nat → Int64} {s : Nat → Nat × Nat × Nat × Bool} {d f : Nat} (hd : d ≤ 7) (hf : f < 3) (hF : ∀ e, e < 3 → H4 V 30 (3 * d + e) (s e)) (hs : ∀ e, e < 3 → Sok n (s e)) {e : Nat} (he : e < 3) (g : Nat) (x : Nat) : f_X5_likeFaces_5 V L (nI d) (nI f) (g + 1) (nI x) (nI e) = if s f = s e then (if f ≤ e then f_X5_likeFaces_5 V L (nI d) (nI f) g (nI (x + 1)) (nI (e + 1)) else some (nI 0)) else f_X5_likeFaces_5 V L (nI d) (nI f) g (nI x) (nI (e + 1)) := by
  have ek : ∀ e, (3 : Int32) * nI d + nI e = nI (3 * d + e) := fun e => by rw [← nI_add, ← pk_mul]; rfl
  rw [f_X5_likeFaces_5, if_neg (show ¬ (3 : Int32) ≤ nI e from nI_ge (b := 3) he (by decide)), ek f, ek e, alike_eq hn (by omega) (by omega) (hF f hf) (hF e he) (hs f hf) (hs e he), bd1_s, nI_1, nI_1]
  by_cases h : s f = s e
  · rw [if_pos h, if_pos h, if_neg (show ¬ (1 : Int32) = 0 by decide)]
    by_cases h2 : f ≤ e
    · rw [if_pos (nI_le h2 (by omega)), if_pos h2]
    · rw [if_neg (nI_ge (by omega) (by omega)), if_neg h2]
      rfl
  · rw [if_neg h, if_neg h, if_pos rfl]
theorem likeF (hn : n ≤ 8) {V : Nat → Nat → Int32} {L : Nat → Int64} {s : Nat → Nat × Nat × Nat × Bool} {d f : Nat} (hd : d ≤ 7) (hf : f < 3) (hF : ∀ e, e < 3 → H4 V 30 (3 * d + e) (s e)) (hs : ∀ e, e < 3 → Sok n (s e)) : f_X5_likeFaces V L (nI d) (nI f) = some (nI (lkF s f)) := by
  have st := fun {e : Nat} (he : e < 3) (g x : Nat) => lf_step (L := L) hn hd hf hF hs he g x
  have fin : ∀ g x, f_X5_likeFaces_5 V L (nI d) (nI f) (g + 1) (nI x) (nI 3) = some (nI x) := fun g x => by rw [f_X5_likeFaces_5, if_pos (show (3 : Int32) ≤ nI 3 by decide)]
  have s0 := fun x => st (e := 0) (by omega) 19999 x
  have s1 := fun x => st (e := 1) (by omega) 19998 x
  have s2 := fun x => st (e := 2) (by omega) 19997 x
  have s3 := fun x => fin 19996 x
  have main : f_X5_likeFaces_5 V L (nI d) (nI f) (19999 + 1) (nI 0) (nI 0) = some (nI (lkF s f)) := by
    have hf3 : f = 0 ∨ f = 1 ∨ f = 2 := by omega
    rcases hf3 with e | e | e <;> subst e
    · rw [s0, if_pos rfl, if_pos (by omega), lkF_0]
      by_cases h1 : s 0 = s 1
      · rw [show (19999 : Nat) = 19998 + 1 from rfl, s1, if_pos h1, if_pos (by omega), if_pos h1]
        by_cases h2 : s 0 = s 2
        · rw [show (19998 : Nat) = 19997 + 1 from rfl, s2, if_pos h2, if_pos (by omega), if_pos h2]
          exact s3 3
        · rw [show (19998 : Nat) = 19997 + 1 from rfl, s2, if_neg h2, if_neg h2]
          exact s3 2
      · rw [show (19999 : Nat) = 19998 + 1 from rfl, s1, if_neg h1, if_neg h1]
        by_cases h2 : s 0 = s 2
        · rw [show (19998 : Nat) = 19997 + 1 from rfl, s2, if_pos h2, if_pos (by omega), if_pos h2]
          exact s3 2
        · rw [show (19998 : Nat) = 19997 + 1 from rfl, s2, if_neg h2, if_neg h2]
          exact s3 1
    · rw [s0, lkF_1]
      by_cases h1 : s 1 = s 0
      · rw [if_pos h1, if_neg (by omega), if_pos h1]
      · rw [if_neg h1, if_neg h1, show (19999 : Nat) = 19998 + 1 from rfl, s1, if_pos rfl, if_pos (by omega)]
        by_cases h2 : s 1 = s 2
        · rw [show (19998 : Nat) = 19997 + 1 from rfl, s2, if_pos h2, if_pos (by omega), if_pos h2]
          exact s3 2
        · rw [show (19998 : Nat) = 19997 + 1 from rfl, s2, if_neg h2, if_neg h2]
          exact s3 1
    · rw [s0, lkF_2]
      by_cases h1 : s 2 = s 0
      · rw [if_pos h1, if_neg (by omega), if_pos h1]
      · rw [if_neg h1, if_neg h1, show (19999 : Nat) = 19998 + 1 from rfl, s1]
        by_cases h2 : s 2 = s 1
        · rw [if_pos h2, if_neg (by omega), if_pos h2]
        · rw [if_neg h2, if_neg h2, show (19998 : Nat) = 19997 + 1 from rfl, s2, if_pos rfl, if_pos (by omega)]
          exact s3 1
  exact main
def CF : Nat → Nat
  | 0 => 1
  | m + 1 => 3 * CF m + 4
theorem CF_pos : ∀ m, 1 ≤ CF m := by
  intro m
  cases m with
  | zero => exact Nat.le_refl 1
  | succ m => rw [CF]; omega
def RunOk (n : Nat) (K : Nat → Nat) (T B Y G m d : Nat) : Prop :=
  ∀ (V : Nat → Nat → Int32) (st : Nat × Nat × Nat × Bool) (w : Nat) (P : Nat → Nat), A2 V n K st → Sok n st → pop st.1 ≤ m + 1 → (∀ c, c < 8 → V 34 c = nI (P c)) →
    ∃ U, (∀ L, f_X5_enter V L (nI d) (nI w) = some (U, L)) ∧ ∃ j W, j ≤ CF m ∧ (∀ g L, f_X5_layLikely_33 (j + g) U L (nI d) = f_X5_layLikely_33 g W L (nI d + (-1))) ∧ FS d V W ∧ ∀ c, c < 8 → W 34 c = nI (P c + w * wy n T B Y G c m st)
theorem FS.up29 (V : Nat → Nat → Int32) (d : Nat) (x : Int32) : FS d V (up2 V 29 d x) := ⟨fun x _ _ _ _ => by rw [up2_na _ _ _ (by decide)], fun a h1 h2 => by rw [up2_na _ _ _ (by omega)], fun a i h1 h2 h3 => by rw [up2_ni _ _ _ _ (by omega)], fun a i h1 h2 h3 => by rw [up2_na _ _ _ (by omega)]⟩
theorem FS.sd (V : Nat → Nat → Int32) (d : Nat) (st : Nat × Nat × Nat × Bool) : FS d V (setD V st) := ⟨fun x h5 h6 h7 h8 => setD_f x h5 h6 h7 h8, fun a h1 h2 => setD_a a (by omega), fun a i h1 h2 h3 => by rw [setD_a a (by omega)], fun a i h1 h2 h3 => by rw [setD_a a (by omega)]⟩
theorem pop_step {V : Nat → Nat → Int32} {d : Nat} (hd : d ≤ 7) (h29 : V 29 d = nI 3) (g : Nat) (L : Nat → Int64) : f_X5_layLikely_33 (g + 1) V L (nI d) = f_X5_layLikely_33 g (up2 V 29 d (nI 4)) L (nI d + (-1)) := by
  have e8 := ib_nI (show d < 8 by omega) (show 8 < 2 ^ 31 by decide)
  rw [f_X5_layLikely_33, if_neg (nI_pos (by omega)), if_pos e8, if_pos e8, if_pos e8, nI_clamp (by omega), h29, bnd_e, if_pos (show (3 : Int32) ≤ nI 3 by decide)]
  unfold f_X5_layLikely_70
  rw [if_pos (show (0 : Int32) ≤ 0 by decide), if_neg (show ¬ nI 3 < (3 : Int32) by decide)]
  rfl
theorem face_step (hn : n ≤ 8) {m d : Nat} (hrun : RunOk n K T B Y G m (d + 1)) (hd : d + 1 ≤ 7) {V : Nat → Nat → Int32} {s : Nat → Nat × Nat × Nat × Bool} {w f : Nat} {P : Nat → Nat} (hf : f < 3) (hM : Mb V n K) (h29 : V 29 d = nI f) (h28 : V 28 d = nI w) (hF : ∀ e, e < 3 → H4 V 30 (3 * d + e) (s e)) (hs : ∀ e, e < 3 → Sok n (s e)) (hp : pop (s f).1 ≤ m + 1) (hP : ∀ c, c < 8 → V 34 c = nI (P c)) :
    ∃ j W, j ≤ CF m + 1 ∧ (∀ g L, f_X5_layLikely_33 (j + g) V L (nI d) = f_X5_layLikely_33 g W L (nI d)) ∧ FS d V W ∧ W 29 d = nI (f + 1) ∧ W 28 d = nI w ∧ (∀ e, e < 3 → H4 W 30 (3 * d + e) (s e)) ∧ ∀ c, c < 8 → W 34 c = nI (P c + w * lkF s f * wy n T B Y G c m (s f)) := by
  have e8 := ib_nI (show d < 8 by omega) (show 8 < 2 ^ 31 by decide)
  have hle := lkF_le s f
  have hF3 : ∀ e, e < 3 → H4 (up2 V 29 d (nI (f + 1))) 30 (3 * d + e) (s e) := fun e he => by
    obtain ⟨q1, q2, q3, q4⟩ := hF e he
    exact ⟨by rw [up2_na _ _ _ (by decide)]; exact q1, by rw [up2_na _ _ _ (by decide)]; exact q2, by rw [up2_na _ _ _ (by decide)]; exact q3, by rw [up2_na _ _ _ (by decide)]; exact q4⟩
  have head : ∀ g L, f_X5_layLikely_33 (g + 1) V L (nI d) = f_X5_layLikely_70 (f_X5_layLikely_33 g) (up2 V 29 d (nI (f + 1))) L (nI d) (nI f) (nI (lkF s f)) := fun g L => by
    rw [f_X5_layLikely_33, if_neg (nI_pos (by omega)), if_pos e8, if_pos e8, if_pos e8, nI_clamp (by omega), h29, bnd_e, nI_1, if_neg (show ¬ (3 : Int32) ≤ nI f from nI_ge (b := 3) hf (by decide)), likeF hn (by omega) hf hF3 hs, bd1_s]
  by_cases hl : lkF s f = 0
  · refine ⟨1, up2 V 29 d (nI (f + 1)), by omega, fun g L => ?_, FS.up29 V d _, up2_ii _ _ _ _, by rw [up2_na _ _ _ (by decide)]; exact h28, hF3, fun c hc => ?_⟩
    · rw [Nat.add_comm 1 g, head g L, hl]
      unfold f_X5_layLikely_70
      rw [if_pos (show nI 0 ≤ 0 by decide), if_pos (show nI f < (3 : Int32) from nI_lt (b := 3) hf (by decide))]
    · rw [up2_na _ _ _ (by decide), hP c hc, hl, Nat.mul_zero, Nat.zero_mul, Nat.add_zero]
  · generalize hV3 : up2 V 29 d (nI (f + 1)) = V3 at head hF3
    have hfs3 : FS d V V3 := by rw [← hV3]; exact FS.up29 V d _
    have h293 : V3 29 d = nI (f + 1) := by rw [← hV3]; exact up2_ii _ _ _ _
    have h283 : V3 28 d = nI w := by rw [← hV3, up2_na _ _ _ (by decide)]; exact h28
    have h343 : V3 34 = V 34 := by rw [← hV3, up2_na _ _ _ (by decide)]
    have hM3 : Mb V3 n K := hM.fs hfs3
    have hA : A2 (setD V3 (s f)) n K (s f) := ⟨⟨rfl, rfl, rfl, rfl⟩, hM3⟩
    obtain ⟨U, u1, j, W, hj, u2, u3, u4⟩ := hrun (setD V3 (s f)) (s f) (w * lkF s f) P hA (hs f hf) hp (fun c hc => by rw [setD_a 34 (by decide), h343]; exact hP c hc)
    have hfs : FS (d + 1) V3 W := (FS.sd V3 (d + 1) (s f)).tr u3
    refine ⟨j + 1, W, by omega, fun g L => ?_, hfs3.tr (hfs.le (by omega)), by rw [hfs.2.2.1 29 d (by decide) (by decide) (by omega)]; exact h293, by rw [hfs.2.2.1 28 d (by decide) (by decide) (by omega)]; exact h283, fun e he => ?_, u4⟩
    · rw [show j + 1 + g = (j + g) + 1 by omega, head (j + g) L]
      have ek : (3 : Int32) * nI d + nI f = nI (3 * d + f) := by rw [← nI_add, ← pk_mul]; rfl
      have e24 := ib_nI (show 3 * d + f < 24 by omega) (show 24 < 2 ^ 31 by decide)
      obtain ⟨q1, q2, q3, q4⟩ := hF3 f hf
      have h134 : f_X5_layLikely_134 (f_X5_layLikely_33 (j + g)) (setD V3 (s f)) L (nI d) (nI (lkF s f)) = f_X5_layLikely_33 g W L (nI d) := by
        unfold f_X5_layLikely_134
        rw [nI_1, nI_pred, if_pos e8, nI_clamp (by omega), setD_a 28 (by decide), h283, pk_mul, u1 L, bd2_s, u2 g L, pk_m1]
      unfold f_X5_layLikely_70
      rw [if_neg (nI_nle (by omega) (by omega)), ek, if_pos e24, nI_clamp (by omega), q1, bnd_e, if_pos e24, show up2 V3 0 5 (nI (s f).1) 31 (3 * d + f) = nI (s f).2.1 from q2, bnd_e, if_pos e24, show up2 (up2 V3 0 5 (nI (s f).1)) 0 6 (nI (s f).2.1) 32 (3 * d + f) = nI (s f).2.2.1 from q3, bnd_e, if_pos e24, show up2 (up2 (up2 V3 0 5 (nI (s f).1)) 0 6 (nI (s f).2.1)) 0 7 (nI (s f).2.2.1) 33 (3 * d + f) = bz (s f).2.2.2 from q4, bnd_e, bnd_e]
      rw [← set4 (V := V3) (st := s f)] at h134
      cases ho : (s f).2.2.2 with
      | false => rw [ho] at h134; exact (if_neg (show ¬ bz false = 1 by decide)).trans h134
      | true => rw [ho] at h134; exact (if_pos (show bz true = 1 by decide)).trans h134
    · obtain ⟨q1, q2, q3, q4⟩ := hF3 e he
      exact ⟨by rw [hfs.2.2.2 30 _ (by decide) (by decide) (by omega)]; exact q1, by rw [hfs.2.2.2 (30 + 1) _ (by decide) (by decide) (by omega)]; exact q2, by rw [hfs.2.2.2 (30 + 2) _ (by decide) (by decide) (by omega)]; exact q3, by rw [hfs.2.2.2 (30 + 3) _ (by decide) (by decide) (by omega)]; exact q4⟩
theorem run_leaf (hn : n ≤ 8) (hB : KB n K T B Y G) {m d w : Nat} (hd : d + m = 7) {V : Nat → Nat → Int32} {st : Nat × Nat × Nat × Bool} {P : Nat → Nat} (hA : A2 V n K st) (hs : Sok n st) (hc : canB st.1 B = false) (hP : ∀ c, c < 8 → V 34 c = nI (P c)) :
    ∃ U, (∀ L, f_X5_enter V L (nI d) (nI w) = some (U, L)) ∧ ∃ j W, j ≤ CF m ∧ (∀ g L, f_X5_layLikely_33 (j + g) U L (nI d) = f_X5_layLikely_33 g W L (nI d + (-1))) ∧ FS d V W ∧ ∀ c, c < 8 → W 34 c = nI (P c + w * wy n T B Y G c m st) := by
  obtain ⟨U, u1, u2, u3, u4⟩ := enter_leaf (w := w) hn hB (show d ≤ 7 by omega) hA hs hc hP
  refine ⟨U, u1, 1, up2 U 29 d (nI 4), CF_pos m, fun g L => ?_, u2.tr (FS.up29 U d _), fun c hcc => ?_⟩
  · rw [Nat.add_comm 1 g]
    exact pop_step (by omega) u3 g L
  · rw [up2_na _ _ _ (by decide), u4 c hcc, wy_no hc, show 7 - d = m by omega]
    by_cases h : st.1 = 2 ^ c
    · rw [if_pos h, if_pos h]
    · rw [if_neg h, if_neg h, Nat.mul_zero]
theorem parts_sum (P w l0 x0 l1 x1 l2 x2 : Nat) : P + w * l0 * x0 + w * l1 * x1 + w * l2 * x2 = P + w * (l0 * x0 + l1 * x1 + l2 * x2) := by
  rw [Nat.mul_add, Nat.mul_add, Nat.mul_assoc, Nat.mul_assoc, Nat.mul_assoc]
  omega
theorem run_ok (hn : n ≤ 8) (hB : KB n K T B Y G) : ∀ (m d : Nat), d + m = 7 → RunOk n K T B Y G m d := by
  intro m
  induction m with
  | zero =>
    intro d hd V st w P hA hs hp hP
    have hc : canB st.1 B = false := by
      cases hc : canB st.1 B with
      | false => rfl
      | true => have := (canB_can hc).2; omega
    exact run_leaf hn hB hd hA hs hc hP
  | succ m ih =>
    intro d hd V st w P hA hs hp hP
    cases hc : canB st.1 B with
    | false => exact run_leaf hn hB hd hA hs hc hP
    | true =>
      have hrun := ih (d + 1) (by omega)
      obtain ⟨U, u1, u2, u3, u4, u5, u6⟩ := enter_inner (w := w) hn hB (show d ≤ 7 by omega) hA hs hc
      have hsk : ∀ e, e < 3 → Sok n (cnt n T B Y G st (e + 1)).2 := fun e _ => (cnt_ok hs).2
      have hpp : ∀ e, pop (cnt n T B Y G st (e + 1)).2.1 ≤ m + 1 := fun e => by
        have := cnt_pop (T := T) (Y := Y) (G := G) (beats := e + 1) (show n ≤ 9 by omega) hs hc
        omega
      have hMU : Mb U n K := hA.2.fs u2
      obtain ⟨j0, W0, a1, a2, a3, a4, a5, a6, a7⟩ := face_step (s := fun e => (cnt n T B Y G st (e + 1)).2) hn hrun (by omega) (show 0 < 3 by omega) hMU u3 u4 u6 hsk (hpp 0) (fun c hcc => by rw [u5]; exact hP c hcc)
      obtain ⟨j1, W1, b1, b2, b3, b4, b5, b6, b7⟩ := face_step (s := fun e => (cnt n T B Y G st (e + 1)).2) hn hrun (by omega) (show 0 + 1 < 3 by omega) (hMU.fs a3) a4 a5 a6 hsk (hpp 1) a7
      obtain ⟨j2, W2, c1, c2, c3, c4, c5, c6, c7⟩ := face_step (s := fun e => (cnt n T B Y G st (e + 1)).2) hn hrun (by omega) (show 0 + 1 + 1 < 3 by omega) ((hMU.fs a3).fs b3) b4 b5 b6 hsk (hpp 2) b7
      refine ⟨U, u1, j0 + j1 + j2 + 1, up2 W2 29 d (nI 4), by rw [CF]; omega, fun g L => ?_, (((u2.tr a3).tr b3).tr c3).tr (FS.up29 W2 d _), fun c hcc => ?_⟩
      · rw [show j0 + j1 + j2 + 1 + g = j0 + (j1 + (j2 + (g + 1))) by omega, a2, b2, c2]
        exact pop_step (by omega) c4 g L
      · rw [up2_na _ _ _ (by decide), c7 c hcc, wy, if_pos hc]
        congr 1
        have h := lk_sum (fun e => (cnt n T B Y G st (e + 1)).2) (wy n T B Y G c m)
        exact (parts_sum _ _ _ _ _ _ _ _).trans (by rw [h])
theorem lay6 : ∀ (m fuel j : Nat) (V : Nat → Nat → Int32), (∀ i, i < j → V 34 i = nI 0) → j + m = 8 → m < fuel →
    ∃ W, (∀ i, i < 8 → W 34 i = nI 0) ∧ (∀ a, a ≠ 34 → W a = V a) ∧ ∀ L, f_X5_layLikely_6 fuel V L (nI j) = bd2 (f_X5_enter W L (nI 0) (nI 1)) fun V_1 L_2 => f_X5_layLikely_33 20000 V_1 L_2 (nI 0) := by
  intro m
  induction m with
  | zero =>
    intro fuel j V hz hj hf
    obtain ⟨g, rfl⟩ : ∃ g, fuel = g + 1 := ⟨fuel - 1, by omega⟩
    refine ⟨V, fun i hi => hz i (by omega), fun _ _ => rfl, fun L => ?_⟩
    rw [f_X5_layLikely_6, if_pos (show (8 : Int32) ≤ nI j from nI_le (a := 8) (by omega) (by omega))]
    rfl
  | succ m ih =>
    intro fuel j V hz hj hf
    obtain ⟨g, rfl⟩ : ∃ g, fuel = g + 1 := ⟨fuel - 1, by omega⟩
    obtain ⟨W, w1, w2, w3⟩ := ih g (j + 1) (up2 V 34 j 0) (fun i hi => by
      rw [up2_at, if_pos rfl]
      by_cases e : i = j
      · rw [if_pos e]; rfl
      · rw [if_neg e]
        exact hz i (by omega)) (by omega) (by omega)
    refine ⟨W, w1, fun a ha => (w2 a ha).trans (up2_na V _ _ ha), fun L => ?_⟩
    rw [f_X5_layLikely_6, if_neg (show ¬ (8 : Int32) ≤ nI j from nI_ge (b := 8) (by omega) (by decide)), if_pos (ib_nI (show j < 8 by omega) (by decide)), nI_clamp (by omega), bnd_e, nI_1]
    exact w3 L
theorem layLikely_eq (hn : n ≤ 8) (hB : KB n K T B Y G) {V2 : Nat → Nat → Int32} (hA : A2 V2 n K st) (hs : Sok n st) : ∃ W, (∀ L, f_X5_layLikely V2 L = some (W, L)) ∧ RF V2 W ∧ ∀ c, c < 8 → W 34 c = nI (wy n T B Y G c 7 st) := by
  have hro : RO V2 (setD (setSv V2 st) st) := hA.svo
  have hsv : Sv (setD (setSv V2 st) st) st := ⟨rfl, rfl, rfl, rfl⟩
  have hsave : ∀ L, f_X5_save V2 L = some (setD (setSv V2 st) st, L) := fun L => by
    have := save_eq V2 L st
    rw [hA.sd] at this
    exact this
  generalize setD (setSv V2 st) st = S1 at hro hsv hsave
  obtain ⟨Z, z1, z2, z3⟩ := lay6 8 20000 0 S1 (fun i hi => by omega) (by omega) (by omega)
  have hF : ∀ x, x < 18 ∨ 21 < x → Z 0 x = V2 0 x := fun x hx => by rw [z2 0 (by decide)]; exact hro.1 x hx
  have hAZ : A2 Z n K st := by
    refine ⟨?_, ?_, fun i hi => ?_⟩
    · rw [hF 5 (by omega), hF 6 (by omega), hF 7 (by omega), hF 8 (by omega)]; exact hA.1
    · rw [hF 1 (by omega)]; exact hA.2.1
    · rw [z2 4 (by decide), hro.2 4 (by decide)]; exact hA.2.2 i hi
  have hp := pop_n (show n ≤ 9 by omega) hs.1
  obtain ⟨U, u1, j, W, hj, u2, u3, u4⟩ := run_ok hn hB 7 0 (by omega) Z st 1 (fun _ => 0) hAZ hs (by omega) z1
  have hj2 : j ≤ 6559 := hj
  have hZ18 : Sv Z st := by
    unfold Sv
    rw [z2 0 (by decide)]
    exact hsv
  have hSW : Sv W st := ⟨by rw [u3.1 18 (by decide) (by decide) (by decide) (by decide)]; exact hZ18.1, by rw [u3.1 19 (by decide) (by decide) (by decide) (by decide)]; exact hZ18.2.1, by rw [u3.1 20 (by decide) (by decide) (by decide) (by decide)]; exact hZ18.2.2.1, by rw [u3.1 21 (by decide) (by decide) (by decide) (by decide)]; exact hZ18.2.2.2⟩
  refine ⟨setD W st, fun L => ?_, ⟨fun x hx => ?_, fun a h1 h2 => ?_⟩, fun c hc => ?_⟩
  · unfold f_X5_layLikely
    have hz3 := z3 L
    have hu2 := u2 (19999 - j + 1) L
    rw [show j + (19999 - j + 1) = 20000 by omega] at hu2
    have hend : f_X5_layLikely_33 (19999 - j + 1) W L (nI 0 + (-1)) = some (setD W st, L) := by
      rw [f_X5_layLikely_33, if_pos (by decide), load_any hSW, bd2_s]
    rw [hsave L, bd2_s]
    refine Eq.trans hz3 ?_
    rw [u1 L, bd2_s]
    exact hu2.trans hend
  · by_cases h5 : x = 5
    · subst h5; exact hA.1.1.symm
    by_cases h6 : x = 6
    · subst h6; exact hA.1.2.1.symm
    by_cases h7 : x = 7
    · subst h7; exact hA.1.2.2.1.symm
    by_cases h8 : x = 8
    · subst h8; exact hA.1.2.2.2.symm
    rw [setD_f x h5 h6 h7 h8, u3.1 x h5 h6 h7 h8]
    exact hF x (by omega)
  · rw [setD_a a (by omega), u3.2.1 a h1 (by omega), z2 a (by omega), hro.2 a h1]
  · rw [setD_a 34 (by decide), u4 c hc, Nat.zero_add, Nat.one_mul]
end
