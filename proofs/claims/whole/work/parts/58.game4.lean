section
variable {nv : Nat}
theorem fold42 (hnv1 : 1 ≤ nv) (hnv : nv ≤ 3) {k5 : (Nat → Nat → Int32) → (Nat → Int64) → Int32 → Int32 → Option ((Nat → Nat → Int32) × (Nat → Int64))} {k19 : (Nat → Nat → Int32) → (Nat → Int64) → Int32 → Option ((Nat → Nat → Int32) × (Nat → Int64))} {V : Nat → Nat → Int32} {L : Nat → Int64} {x2 : Int32} {t k : Nat} {A : Nat → Nat} (ht : t ≤ 7) (hk : nv * k + nv ≤ 2187) (h2 : V 0 2 = nI nv) (hA : ∀ v, v < nv → V 22 (nv * k + v) = nI (A (nv * k + v)) ∧ A (nv * k + v) ≤ 2) :
    ∀ (m fuel v best : Nat), v + m = nv → m < fuel → best ≤ 2 → f_X5_foldGame_42 k5 k19 V L x2 (nI t) (nI k) fuel (nI best) (nI v) = k19 (up2 V 22 k (nI (opF (decide (t % 2 = 0)) (fun v => A (nv * k + v)) m v best))) L (nI (k + 1)) := by
  have hkk : k ≤ nv * k := Nat.le_mul_of_pos_left k (by omega)
  intro m
  induction m with
  | zero =>
    intro fuel v best hv hf hb
    obtain ⟨g, rfl⟩ : ∃ g, fuel = g + 1 := ⟨fuel - 1, by omega⟩
    rw [f_X5_foldGame_42, h2, if_pos (nI_le (by omega) (by omega)), if_pos (ib_nI (show k < 2187 by omega) (by decide)), nI_clamp (by omega), bnd_e, nI_1]
    rfl
  | succ m ih =>
    intro fuel v best hv hf hb
    obtain ⟨g, rfl⟩ : ∃ g, fuel = g + 1 := ⟨fuel - 1, by omega⟩
    obtain ⟨q1, q2⟩ := hA v (by omega)
    have hr : irem (nI t) (2 : Int32) = nI (t % 2) := by
      unfold irem
      exact pk_rem (d := 2) (by omega) (by decide) (by decide)
    rw [f_X5_foldGame_42, h2, if_neg (nI_ge (show v < nv by omega) (by omega)), pk_mul, nI_add, if_pos (ib_nI (show nv * k + v < 2187 by omega) (by decide)), nI_clamp (by omega), q1, bnd_e, hr, opF]
    unfold f_X5_foldGame_103
    rw [if_pos rfl, if_neg (show ¬ (1 : Int32) = 0 by decide), nI_1]
    by_cases hp : t % 2 = 0
    · rw [if_pos (show nI (t % 2) = 0 by rw [hp]; rfl), decide_eq_true hp]
      rw [decide_eq_true hp] at ih
      by_cases hl : best < A (nv * k + v)
      · rw [if_neg (nI_ge hl (by omega)), ih g (v + 1) _ (by omega) (by omega) q2, if_pos (by rw [if_pos rfl]; exact hl)]
      · rw [if_pos (nI_le (by omega) (by omega)), ih g (v + 1) _ (by omega) (by omega) hb, if_neg (by rw [if_pos rfl]; exact hl)]
    · rw [if_neg (show ¬ nI (t % 2) = 0 from nI_ne0 (by omega) (by omega)), decide_eq_false hp]
      rw [decide_eq_false hp] at ih
      by_cases hl : A (nv * k + v) < best
      · rw [if_neg (nI_ge hl (by omega)), ih g (v + 1) _ (by omega) (by omega) q2, if_pos (by rw [if_neg (by decide)]; exact hl)]
      · rw [if_pos (nI_le (by omega) (by omega)), ih g (v + 1) _ (by omega) (by omega) hb, if_neg (by rw [if_neg (by decide)]; exact hl)]
theorem fold19 (hnv1 : 1 ≤ nv) (hnv : nv ≤ 3) {k5 : (Nat → Nat → Int32) → (Nat → Int64) → Int32 → Int32 → Option ((Nat → Nat → Int32) × (Nat → Int64))} {t many : Nat} {A : Nat → Nat} (ht : t + 1 ≤ 7) (hm : nv * many ≤ 2187) (hA2 : ∀ i, i < nv * many → A i ≤ 2) :
    ∀ (m fuel k : Nat) (V : Nat → Nat → Int32), k + m = many → m < fuel → V 0 2 = nI nv → (∀ i, k ≤ i → i < nv * many → V 22 i = nI (A i)) → (∀ i, i < k → V 22 i = nI (op nv (decide ((t + 1) % 2 = 0)) (fun v => A (nv * i + v)))) →
      ∃ W, (∀ i, i < many → W 22 i = nI (op nv (decide ((t + 1) % 2 = 0)) (fun v => A (nv * i + v)))) ∧ (∀ x, x ≠ 22 → W x = V x) ∧ ∀ L, f_X5_foldGame_19 k5 (nI many) (nI (t + 1)) fuel V L (nI k) = k5 W L (nI many) (nI t) := by
  have hmm : many ≤ nv * many := Nat.le_mul_of_pos_left many (by omega)
  intro m
  induction m with
  | zero =>
    intro fuel k V hk hf h2 hA hF
    obtain ⟨g, rfl⟩ : ∃ g, fuel = g + 1 := ⟨fuel - 1, by omega⟩
    refine ⟨V, fun i hi => hF i (by omega), fun _ _ => rfl, fun L => ?_⟩
    rw [f_X5_foldGame_19, if_pos (nI_le (by omega) (by omega)), pk_m1]
  | succ m ih =>
    intro fuel k V hk hf h2 hA hF
    obtain ⟨g, rfl⟩ : ∃ g, fuel = g + 1 := ⟨fuel - 1, by omega⟩
    have hkm : nv * k + nv ≤ nv * many := by
      have := Nat.mul_le_mul_left nv (show k + 1 ≤ many by omega)
      rw [Nat.mul_add, Nat.mul_one] at this
      exact this
    have hkk : k ≤ nv * k := Nat.le_mul_of_pos_left k (by omega)
    have hAk : ∀ v, v < nv → V 22 (nv * k + v) = nI (A (nv * k + v)) ∧ A (nv * k + v) ≤ 2 := fun v hv => ⟨hA _ (by omega) (by omega), hA2 _ (by omega)⟩
    obtain ⟨W, w1, w2, w3⟩ := ih g (k + 1) (up2 V 22 k (nI (op nv (decide ((t + 1) % 2 = 0)) (fun v => A (nv * k + v))))) (by omega) (by omega) h2 (fun i hi hi2 => by
      rw [up2_at, if_pos rfl, if_neg (by omega)]
      exact hA i (by omega) hi2) (fun i hi => by
      rw [up2_at, if_pos rfl]
      by_cases e : i = k
      · rw [if_pos e, e]
      · rw [if_neg e]
        exact hF i (by omega))
    refine ⟨W, w1, fun x hx => (w2 x hx).trans (setc_ne V _ hx), fun L => ?_⟩
    have h42 := fold42 (k5 := k5) (k19 := f_X5_foldGame_19 k5 (nI many) (nI (t + 1)) g) (L := L) (x2 := nI many) hnv1 hnv ht (show nv * k + nv ≤ 2187 by omega) h2 hAk (nv - 1) 20000 1 (A (nv * k)) (by omega) (by omega) (hA2 _ (by omega))
    rw [f_X5_foldGame_19, if_neg (nI_ge (show k < many by omega) (by omega)), h2, pk_mul, if_pos (ib_nI (show nv * k < 2187 by omega) (by decide)), nI_clamp (by omega), bnd_e, hA (nv * k) (by omega) (by omega)]
    exact h42.trans (w3 L)
theorem fold5 (hnv1 : 1 ≤ nv) (hnv : nv ≤ 3) :
    ∀ (t fuel : Nat) (V : Nat → Nat → Int32) (A : Nat → Nat), t ≤ 6 → t < fuel → V 0 2 = nI nv → (∀ i, i < nv ^ (t + 1) → V 22 i = nI (A i)) → (∀ i, i < nv ^ (t + 1) → A i ≤ 2) →
      ∃ W, (∀ L, f_X5_foldGame_5 fuel V L (nI (nv ^ (t + 1))) (nI t) = some (W, L)) ∧ (∀ x, x ≠ 22 → W x = V x) ∧ ∀ i, i < nv → W 22 i = nI (fd nv t false (fun c => A (i * nv ^ t + c))) := by
  intro t
  induction t with
  | zero =>
    intro fuel V A ht hf h2 hA hA2
    obtain ⟨g, rfl⟩ : ∃ g, fuel = g + 1 := ⟨fuel - 1, by omega⟩
    refine ⟨V, fun L => ?_, fun _ _ => rfl, fun i hi => ?_⟩
    · rw [f_X5_foldGame_5, if_pos (by decide)]
    · rw [fd, Nat.pow_zero, Nat.mul_one, Nat.add_zero]
      exact hA i (by rw [Nat.pow_succ, Nat.pow_zero, Nat.one_mul]; exact hi)
  | succ t ih =>
    intro fuel V A ht hf h2 hA hA2
    obtain ⟨g, rfl⟩ : ∃ g, fuel = g + 1 := ⟨fuel - 1, by omega⟩
    have hpw := pow3 nv hnv (t + 1 + 1) (by omega)
    have hpw1 := pow3 nv hnv (t + 1) (by omega)
    have hmul : nv * nv ^ (t + 1) = nv ^ (t + 1 + 1) := by rw [Nat.pow_succ nv (t + 1), Nat.mul_comm]
    obtain ⟨U, u1, u2, u3⟩ := fold19 (k5 := f_X5_foldGame_5 g) (t := t) (many := nv ^ (t + 1)) (A := A) hnv1 hnv (by omega) (by rw [hmul]; exact hpw) (by rw [hmul]; exact hA2) (nv ^ (t + 1)) 20000 0 V (by omega) (by omega) h2 (fun i _ hi => hA i (by rw [← hmul]; exact hi)) (fun i hi => by omega)
    have hop : ∀ i, i < nv ^ (t + 1) → op nv (decide ((t + 1) % 2 = 0)) (fun v => A (nv * i + v)) ≤ 2 := by
      intro i hi
      have hb : ∀ v, v < nv → A (nv * i + v) ≤ 2 := fun v hv => hA2 _ (by
        rw [← hmul]
        have := Nat.mul_le_mul_left nv (show i + 1 ≤ nv ^ (t + 1) by omega)
        rw [Nat.mul_add, Nat.mul_one] at this
        omega)
      have : op nv (decide ((t + 1) % 2 = 0)) (fun v => A (nv * i + v)) = op nv (decide ((t + 1) % 2 = 0)) (fun v => if v < nv then A (nv * i + v) else 0) := op_cong hnv1 (fun v hv => by rw [if_pos hv])
      rw [this]
      have hle : ∀ v, (if v < nv then A (nv * i + v) else 0) ≤ 2 := fun v => by
        split
        · exact hb v (by assumption)
        · omega
      exact opF_le hle _ _ _ (hle 0)
    obtain ⟨W, w1, w2, w3⟩ := ih g U (fun i => op nv (decide ((t + 1) % 2 = 0)) (fun v => A (nv * i + v))) (by omega) (by omega) (by rw [u2 0 (by decide)]; exact h2) u1 hop
    refine ⟨W, fun L => ?_, fun x hx => (w2 x hx).trans (u2 x hx), fun i hi => ?_⟩
    · have hu3 := u3 L
      rw [nI_0] at hu3
      rw [f_X5_foldGame_5, if_neg (nI_nle (by omega) (by omega)), h2, if_neg (nI_ne0 (by omega) (by omega)), pk_div (by omega) (by omega) (by omega), pow_div hnv1]
      exact hu3.trans (w1 L)
    · rw [w3 i hi, fd_bot]
      have hfl : flp t false = decide ((t + 1) % 2 = 0) := by
        unfold flp
        by_cases h : t % 2 = 0
        · rw [if_pos h, decide_eq_false (by omega)]
        · rw [if_neg h, decide_eq_true (by omega)]
          rfl
      rw [hfl]
      congr 2
      funext c
      congr 1
      funext v
      congr 1
      rw [Nat.pow_succ, Nat.mul_add, Nat.add_assoc]
      congr 1
      rw [← Nat.mul_assoc, Nat.mul_comm nv i, Nat.mul_assoc, Nat.mul_comm nv]
end
theorem clsF_at (f : Nat → Nat) : ∀ (m v bv : Nat), f (clsF f m v (f bv) bv).2 = (clsF f m v (f bv) bv).1 := by
  intro m
  induction m with
  | zero => intro v bv; rfl
  | succ m ih =>
    intro v bv
    rw [clsF]
    split
    · exact ih (v + 1) v
    · exact ih (v + 1) bv
theorem best33 {nv : Nat} (hnv : nv ≤ 3) {V : Nat → Nat → Int32} {L : Nat → Int64} {x3 : Int32} {f : Nat → Nat} (h2 : V 0 2 = nI nv) (hf : ∀ i, i < nv → V 22 i = nI (f i)) (hf2 : ∀ i, f i ≤ 2) :
    ∀ (m fuel v bv : Nat), v + m = nv → m < fuel → bv < v → f_X5_gameNow_33 V L x3 fuel (nI bv) (nI v) = if x3 = 0 then some (nI (clsF f m v (f bv) bv).1, V, L) else some (nI (clsF f m v (f bv) bv).2, V, L) := by
  intro m
  induction m with
  | zero =>
    intro fuel v bv hv hfu hb
    obtain ⟨g, rfl⟩ : ∃ g, fuel = g + 1 := ⟨fuel - 1, by omega⟩
    rw [f_X5_gameNow_33, h2, if_pos (nI_le (by omega) (by omega)), if_pos (ib_nI (show bv < 2187 by omega) (by decide)), nI_clamp (by omega), hf bv (by omega)]
    rfl
  | succ m ih =>
    intro fuel v bv hv hfu hb
    obtain ⟨g, rfl⟩ : ∃ g, fuel = g + 1 := ⟨fuel - 1, by omega⟩
    have := hf2 v
    have := hf2 bv
    rw [f_X5_gameNow_33, h2, if_neg (nI_ge (show v < nv by omega) (by omega)), if_pos (ib_nI (show v < 2187 by omega) (by decide)), if_pos (ib_nI (show bv < 2187 by omega) (by decide)), nI_clamp (by omega), nI_clamp (by omega), hf v (by omega), hf bv (by omega), nI_1, clsF]
    by_cases hl : f bv < f v
    · rw [if_neg (nI_ge hl (by omega)), if_pos hl]
      exact ih g (v + 1) v (by omega) (by omega) (by omega)
    · rw [if_pos (nI_le (by omega) (by omega)), if_neg hl]
      exact ih g (v + 1) bv (by omega) (by omega) (by omega)
section
variable {N s : Nat} {q : Nat → Nat} {ρ n : Nat} {K : Nat → Nat} {T B Y G : Nat} {st : Nat × Nat × Nat × Bool} {nv : Nat} {bt : Nat → Nat} {ct sn : Nat} {sf so : Nat → Nat} {V : Nat → Nat → Int32} {L : Nat → Int64} {V2 : Nat → Nat → Int32}
/-- GAME as the class makes it -/
def gameC (V : Nat → Nat → Int32) (L : Nat → Int64) (x1 x2 x3 : Int32) : Option (Int32 × (Nat → Nat → Int32) × (Nat → Int64)) := if x3 = 0 then (bd3 (f_X1_bestFor V L x1 x2) fun r_4 V_5 L_6 => some (r_4, V_5, L_6)) else (bd3 (f_X1_verseFor V L x1 x2) fun r_1 V_2 L_3 => some (r_1, V_2, L_3))
theorem game_lk (h : RelX N s q ρ n K T B Y G st nv bt ct sn sf so V L V2) {a b : Nat} (ha : a < n) (hb : b < n) (hab : a ≠ b) (x3 : Int32) : Lk V V2 (gameC V L (nI a) (nI b) x3) (fun L2 => f_X5_gameNow V2 L2 (nI a) (nI b) x3) := by
  have hA := h.a2
  obtain ⟨h1, h2, h3, h4, h5, h6, h7, h8, h9⟩ := h
  have hn := h7.le
  obtain ⟨a1, a2, a3⟩ := h7.ok (by omega)
  obtain ⟨e1, e2, e3, e4⟩ := h4
  have hbt : ∀ v, v < nv → 1 ≤ bt v ∧ bt v ≤ 99 := fun v hv => (e4 v hv).2.2
  have hB := h3.2.2.2
  obtain ⟨cc, t1, t2⟩ := takeAll_eq (c := V 16) h3.1
  have hrc := worth_eq (n := n) (T := T) (B := B) (Y := Y) (G := G) hn ha hb hab a3 e3 hbt 6 1 8 false (by omega) (by omega)
  have hrc' : RcOk n T B Y G nv bt (f_X1_worth 8) (nI b) (nI a) (nI (0 + 1)) (fun st => 2 - gv n T B Y G nv bt a b 6 false st) := hrc
  obtain ⟨W, w1, w2, w3, w4⟩ := worth_node (L := L) (own := a) (oth := b) (d := 0) (V := setc V 16 cc) hn a2 ha hb a3 e3 hbt (by omega) hrc' t2 e1 (fun v hv => (e4 v hv).1)
  have hle := gv_le (n := n) (T := T) (B := B) (Y := Y) (G := G) (nv := nv) (bt := bt) (a := a) (b := b)
  have hcm : ∀ v, cm n T B Y G bt a b (fun st => 2 - gv n T B Y G nv bt a b 6 false st) st v = (if (cnt n T B Y G st (bt v)).1 = b then 2 else if (cnt n T B Y G st (bt v)).1 = a then 0 else gv n T B Y G nv bt a b 6 false (cnt n T B Y G st (bt v)).2) := by
    intro v
    unfold cm
    have := hle 6 false (cnt n T B Y G st (bt v)).2
    by_cases h1 : (cnt n T B Y G st (bt v)).1 = a
    · rw [if_pos h1, if_neg (by omega), if_pos h1]
    · rw [if_neg h1]
      by_cases h2 : (cnt n T B Y G st (bt v)).1 = b
      · rw [if_pos h2, if_pos h2]
      · rw [if_neg h2, if_neg h2, if_neg h1]
        show 2 - (2 - gv n T B Y G nv bt a b 6 false (cnt n T B Y G st (bt v)).2) = _
        omega
  have hcmf : cm n T B Y G bt a b (fun st => 2 - gv n T B Y G nv bt a b 6 false st) st = _ := funext hcm
  have hFQ : FQ V W := (FQ.st16 V cc).tr w3
  have hw : f_X1_worth 9 (setc V 16 cc) L (nI a) (nI b) 0 = some (nI (if canB st.1 B then (clsF (cm n T B Y G bt a b (fun st => 2 - gv n T B Y G nv bt a b 6 false st) st) (nv - 1) 1 (cm n T B Y G bt a b (fun st => 2 - gv n T B Y G nv bt a b 6 false st) st 0) 0).1 else 1), W, L) := w1
  have hcl : gameC V L (nI a) (nI b) x3 = if x3 = 0 then some (nI (if canB st.1 B then (clsF (cm n T B Y G bt a b (fun st => 2 - gv n T B Y G nv bt a b 6 false st) st) (nv - 1) 1 (cm n T B Y G bt a b (fun st => 2 - gv n T B Y G nv bt a b 6 false st) st 0) 0).1 else 1), W, L) else some (if canB st.1 B then nI (clsF (cm n T B Y G bt a b (fun st => 2 - gv n T B Y G nv bt a b 6 false st) st) (nv - 1) 1 (cm n T B Y G bt a b (fun st => 2 - gv n T B Y G nv bt a b 6 false st) st 0) 0).2 else -1, W, L) := by
    unfold gameC f_X1_bestFor f_X1_verseFor
    rw [t1, bd1_s, bnd_e, bd1_s, bnd_e, hw, bd3_s, bd3_s, bd3_s, bd3_s, w2]
  have hVs : Vs V2 nv bt := ⟨e2, fun v hv => (e4 v hv).2.1⟩
  have hfin : FC V W ∧ RCa W L := ⟨hFQ.fc, h9.fq hFQ⟩
  cases hc : canB st.1 B with
  | false =>
    rw [hc] at hcl
    have hi : ∀ L2, f_X5_isCount V2 L2 = some (bz false) := fun L2 => by
      have := isCount_eq (L := L2) hA.2 (show n ≤ 9 by omega) a2 hB
      rw [hA.sd, hc] at this
      exact this
    by_cases hx : x3 = 0
    · rw [if_pos hx] at hcl
      refine ⟨nI 1, W, L, V2, hcl, fun L2 => ?_, hfin.1, RF.rf V2, hfin.2⟩
      show f_X5_gameNow V2 L2 (nI a) (nI b) x3 = _
      unfold f_X5_gameNow
      rw [hi L2, bd1_s, if_pos (show bz false = 0 from rfl), if_pos hx]
      rfl
    · rw [if_neg hx] at hcl
      refine ⟨-1, W, L, V2, hcl, fun L2 => ?_, hfin.1, RF.rf V2, hfin.2⟩
      show f_X5_gameNow V2 L2 (nI a) (nI b) x3 = _
      unfold f_X5_gameNow
      rw [hi L2, bd1_s, if_pos (show bz false = 0 from rfl), if_neg hx]
  | true =>
    rw [hc, if_pos rfl, if_pos rfl, hcmf] at hcl
    have hi : ∀ L2, f_X5_isCount V2 L2 = some (bz true) := fun L2 => by
      have := isCount_eq (L := L2) hA.2 (show n ≤ 9 by omega) a2 hB
      rw [hA.sd, hc] at this
      exact this
    obtain ⟨U, u1, u2, u3⟩ := lay_eq hn hB ha hb a3 e3 hbt a2 hA hVs
    have hU2 : U 0 2 = nI nv := by rw [u2.1 2 (by omega)]; exact e2
    obtain ⟨Q, q1, q2, q3⟩ := fold5 a3 e3 6 20000 U (fun c => (pl n T B Y G nv bt a b 7 st c).1) (by omega) (by omega) hU2 u3 (fun i _ => pl_le2 _ _ _)
    have hval : ∀ i, i < nv → Q 22 i = nI (if (cnt n T B Y G st (bt i)).1 = b then 2 else if (cnt n T B Y G st (bt i)).1 = a then 0 else gv n T B Y G nv bt a b 6 false (cnt n T B Y G st (bt i)).2) := by
      intro i hi
      rw [q3 i hi]
      congr 1
      by_cases h1 : (cnt n T B Y G st (bt i)).1 = b
      · rw [if_pos h1, fd_cong a3 _ _ _ (fun _ => 2), fd_const a3]
        intro c hcc
        rw [pl, if_pos hc, dig a3 hi hcc, if_pos h1]
      · rw [if_neg h1]
        by_cases h2 : (cnt n T B Y G st (bt i)).1 = a
        · rw [if_pos h2, fd_cong a3 _ _ _ (fun _ => 0), fd_const a3]
          intro c hcc
          rw [pl, if_pos hc, dig a3 hi hcc, if_neg h1, if_pos h2]
        · rw [if_neg h2, ← fd_pl a3]
          refine fd_cong a3 _ _ _ _ (fun c hcc => ?_)
          rw [pl, if_pos hc, dig a3 hi hcc, if_neg h1, if_neg h2, pl_add a3]
    have hle2 : ∀ i, (if (cnt n T B Y G st (bt i)).1 = b then 2 else if (cnt n T B Y G st (bt i)).1 = a then 0 else gv n T B Y G nv bt a b 6 false (cnt n T B Y G st (bt i)).2) ≤ 2 := by
      intro i
      split
      · omega
      · split
        · omega
        · exact hle _ _ _
    have hQ2 : Q 0 2 = nI nv := by rw [q2 0 (by decide)]; exact hU2
    have hRF : RF V2 Q := ⟨fun x hx => by rw [q2 0 (by decide)]; exact u2.1 x hx, fun x hx hx2 => by rw [q2 x (by omega)]; exact u2.2 x hx hx2⟩
    have hx5 : ∀ L2, f_X5_gameNow V2 L2 (nI a) (nI b) x3 = f_X5_gameNow_33 Q L2 x3 20000 (nI 0) (nI 1) := by
      intro L2
      unfold f_X5_gameNow f_X5_foldGame
      rw [hi L2, bd1_s, if_neg (show ¬ bz true = 0 by decide), u1 L2, bd3_s, show (6 : Int32) = nI 6 by decide, q1 L2, bd2_s]
      rfl
    have hb33 := fun L2 => best33 (L := L2) (x3 := x3) e3 hQ2 hval hle2 (nv - 1) 20000 1 0 (by omega) (by omega) (by omega)
    by_cases hx : x3 = 0
    · rw [if_pos hx] at hcl
      refine ⟨_, W, L, Q, hcl, fun L2 => ?_, hfin.1, hRF, hfin.2⟩
      show f_X5_gameNow V2 L2 (nI a) (nI b) x3 = _
      rw [hx5 L2, hb33 L2, if_pos hx]
    · rw [if_neg hx] at hcl
      refine ⟨_, W, L, Q, hcl, fun L2 => ?_, hfin.1, hRF, hfin.2⟩
      show f_X5_gameNow V2 L2 (nI a) (nI b) x3 = _
      rw [hx5 L2, hb33 L2, if_neg hx]
end
theorem sim_game : Sim_game Rel := by
  rintro N V L V2 L2 x1 x2 x3 hN ⟨s, q, ρ, n, K, T, B, Y, G, st, nv, bt, ct, sn, sf, so, h⟩
  have h3 := h.2.2.1
  have h7 := h.2.2.2.2.2.2.1
  have hn := h7.le
  unfold f_X4_game f_X5_game
  rw [hasChild_eq h3.1.1 (by omega), hasChild_eq h3.1.1 (by omega), isChild_eq h3.2.2.1.1 (by omega), isChild_eq h3.2.2.1.1 (by omega)]
  by_cases hx : ib x1 n = true
  · rw [hx, if_neg (show ¬ bz true = 0 by decide), if_neg (show ¬ bz true = 0 by decide)]
    by_cases hx2 : ib x2 n = true
    · rw [hx2, if_neg (show ¬ bz true = 0 by decide), if_neg (show ¬ bz true = 0 by decide)]
      obtain ⟨a, ha, rfl⟩ := ib_of hx (by omega)
      obtain ⟨b, hb, rfl⟩ := ib_of hx2 (by omega)
      by_cases hab : a = b
      · subst hab
        exact ⟨_, V, L, V2, L2, if_pos rfl, if_pos rfl, h.up L2⟩
      · have hab' : ¬ nI a = nI b := fun e => hab ((nI_eq (by omega) (by omega)).mp e)
        rw [if_neg hab', if_neg hab']
        by_cases c1 : x3 < 0
        · exact ⟨_, V, L, V2, L2, if_pos c1, if_pos (by rw [within_0]; exact Or.inl c1), h.up L2⟩
        · by_cases c2 : (1 : Int32) < x3
          · exact ⟨_, V, L, V2, L2, by rw [if_neg c1, if_neg (by rw [Int32.not_le]; exact c2)], if_pos (by rw [within_0]; exact Or.inr c2), h.up L2⟩
          · rw [if_neg c1, if_pos (by rw [← Int32.not_lt]; exact c2), if_neg (show ¬ f_X5_within x3 0 1 = 0 by rw [within_0]; exact fun e => e.elim c1 c2)]
            obtain ⟨a1, a2, a3⟩ := h7.ok (by omega)
            have hI9 := lt_pow (show n ≤ 9 by omega) a2.1
            rw [cisIn_eq h3.1.2.2.2.2.2.1 a2.1 (by omega) (by omega), cisIn_eq h3.1.2.2.2.2.2.1 a2.1 (by omega) (by omega), h3.2.1.1, isIn_eq (by omega) (by omega), isIn_eq (by omega) (by omega)]
            cases hia : st.1.testBit a with
            | false => exact ⟨_, V, L, V2, L2, if_pos rfl, if_pos rfl, h.up L2⟩
            | true =>
              rw [if_neg (show ¬ bz true = 0 by decide), if_neg (show ¬ bz true = 0 by decide)]
              cases hib : st.1.testBit b with
              | false => exact ⟨_, V, L, V2, L2, if_pos rfl, if_pos rfl, h.up L2⟩
              | true =>
                rw [if_neg (show ¬ bz true = 0 by decide), if_neg (show ¬ bz true = 0 by decide)]
                obtain ⟨r, W, L1, W2, k1, k2, k3⟩ := (game_lk h ha hb hab x3).rel h
                have k2' : f_X5_gameNow V2 L2 (nI a) (nI b) x3 = some (r, W2, L2) := k2 L2
                exact ⟨r, W, L1, W2, L2, k1, by rw [k2']; rfl, k3.up L2⟩
    · have hx0 : ib x2 n = false := by simpa using hx2
      rw [hx0]
      exact ⟨_, V, L, V2, L2, if_pos rfl, if_pos rfl, h.up L2⟩
  · have hx0 : ib x1 n = false := by simpa using hx
    rw [hx0]
    exact ⟨_, V, L, V2, L2, if_pos rfl, if_pos rfl, h.up L2⟩
