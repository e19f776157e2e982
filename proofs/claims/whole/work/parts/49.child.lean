/-! a circle as one number; the search for the fewest BEATS -/
theorem g_shl {a k p : Nat} {y : Int64} (hy : y.toBitVec.smod 64 = BitVec.ofNat 64 k) (hk : k < 64) (hp : 2 ^ k = p) (ha : a < 2 ^ 64) : lN a <<< y = lN (a * p) := by
  subst hp
  apply Int64.toBitVec_inj.mp
  rw [Int64.toBitVec_shiftLeft, hy]
  apply BitVec.eq_of_toNat_eq
  have hb : (lN a).toBitVec.toNat = a := Nat.mod_eq_of_lt ha
  have hk' : (BitVec.ofNat 64 k).toNat = k := Nat.mod_eq_of_lt (by omega)
  have h : ((lN a).toBitVec <<< BitVec.ofNat 64 k).toNat = (a * 2 ^ k) % 2 ^ 64 := by simp only [BitVec.shiftLeft_eq', BitVec.toNat_shiftLeft, hb, hk', Nat.shiftLeft_eq]
  exact h
theorem lshl8 {a b : Nat} (ha : a < 2 ^ 40) (hb : b < 256) : lshl (lN a) 8 ||| lN b = lN (a * 256 + b) := by
  unfold lshl
  rw [g_shl (k := 8) (p := 256) (by decide) (by decide) (by decide) (by omega), Nat.mul_comm a 256]
  exact fb_or_sumL (k := 8) a hb
theorem lshl23 {a b : Nat} (ha : a < 2 ^ 40) (hb : b < 8388608) : lshl (lN a) 23 ||| lN b = lN (a * 8388608 + b) := by
  unfold lshl
  rw [g_shl (k := 23) (p := 8388608) (by decide) (by decide) (by decide) (by omega), Nat.mul_comm a 8388608]
  exact fb_or_sumL (k := 23) a hb
theorem ishl_or {a k b : Nat} (hk : k < 31) (h : a * 2 ^ k < 2 ^ 32) (hb : b < 2 ^ k) : ishl (nI a) (nI k) ||| nI b = nI (a * 2 ^ k + b) := by
  unfold ishl
  rw [pk_shlN _ k (s_l k (by omega)) h, Nat.mul_comm a, fa_or_sum a hb]
def poseN (st : Nat × Nat × Nat × Bool) : Nat := (((if st.2.2.2 then 1 else 0) * 16 + st.2.2.1) * 512 + st.2.1) * 512 + st.1
theorem poseN_lt {st : Nat × Nat × Nat × Bool} (h1 : st.1 < 512) (h2 : st.2.1 < 512) (h3 : st.2.2.1 < 16) : poseN st < 8388608 := by
  unfold poseN
  split <;> omega
theorem pose_eq {c : Nat → Int32} {n T B Y G : Nat} {st : Nat × Nat × Nat × Bool} (h : CiS c n T B Y G st) (h1 : st.1 < 512) (h2 : st.2.1 < 512) (h3 : st.2.2.1 < 16) : f_X0_pose c = nI (poseN st) := by
  obtain ⟨-, -, -, -, -, g5, g6, g7, g8⟩ := h
  have key : ∀ z, z ≤ 1 → f_X0_pose_13 c (nI z) = nI (((z * 16 + st.2.2.1) * 512 + st.2.1) * 512 + st.1) := by
    intro z hz
    simp only [f_X0_pose_13, bnd]
    rw [g5, g6, g7]
    have e1 : ishl (nI z) (4 : Int32) ||| nI st.2.2.1 = nI (z * 16 + st.2.2.1) := ishl_or (k := 4) (by decide) (by omega) (by omega)
    have e2 : ishl (nI (z * 16 + st.2.2.1)) (9 : Int32) ||| nI st.2.1 = nI ((z * 16 + st.2.2.1) * 512 + st.2.1) := ishl_or (k := 9) (by decide) (by omega) (by omega)
    have e3 : ishl (nI ((z * 16 + st.2.2.1) * 512 + st.2.1)) (9 : Int32) ||| nI st.1 = nI (((z * 16 + st.2.2.1) * 512 + st.2.1) * 512 + st.1) := ishl_or (k := 9) (by decide) (by omega) (by omega)
    rw [e1, e2, e3]
  unfold f_X0_pose poseN
  rw [g8]
  cases st.2.2.2 with
  | false => rw [if_pos (show bz false = 0 from rfl)]; exact key 0 (by omega)
  | true => rw [if_neg (show ¬ bz true = 0 by decide)]; exact key 1 (by omega)
theorem ishr_nI {a k : Nat} (ha : a < 2 ^ 31) (hk : k < 31) : ishr (nI a) (nI k) = nI (a / 2 ^ k) := by
  unfold ishr
  rw [pk_shrN ha _ k (s_l k (by omega))]
theorem takePose_eq {c : Nat → Int32} {n T B Y G : Nat} {st s0 : Nat × Nat × Nat × Bool} (h : CiS c n T B Y G s0) (h1 : st.1 < 512) (h2 : st.2.1 < 512) (h3 : st.2.2.1 < 16) : CiS (f_X0_takePose c (nI (poseN st))) n T B Y G st := by
  obtain ⟨g0, g1, g2, g3, g4, g5, g6, g7, g8⟩ := h
  have hP := poseN_lt h1 h2 h3
  have e5 : nI (poseN st) &&& 511 = nI st.1 := by
    rw [pk_andN (by omega) 9 (by decide)]
    congr 1
    unfold poseN
    omega
  have e6 : ishr (nI (poseN st)) 9 &&& 511 = nI st.2.1 := by
    rw [show (9 : Int32) = nI 9 from rfl, ishr_nI (by omega) (by decide), pk_andN (by omega) 9 (by decide)]
    congr 1
    unfold poseN
    omega
  have e7 : ishr (nI (poseN st)) 18 &&& 15 = nI st.2.2.1 := by
    rw [show (18 : Int32) = nI 18 from rfl, ishr_nI (by omega) (by decide), pk_andN (by omega) 4 (by decide)]
    congr 1
    unfold poseN
    omega
  have e8 : ishr (nI (poseN st)) 22 = nI (if st.2.2.2 then 1 else 0) := by
    rw [show (22 : Int32) = nI 22 from rfl, ishr_nI (by omega) (by decide)]
    congr 1
    unfold poseN
    split <;> omega
  simp only [f_X0_takePose, bnd]
  rw [e5, e6, e7, e8]
  obtain ⟨I, S, f, o⟩ := st
  cases o with
  | false => exact ⟨g0, g1, g2, g3, g4, rfl, rfl, rfl, rfl⟩
  | true => exact ⟨g0, g1, g2, g3, g4, rfl, rfl, rfl, rfl⟩
theorem key_eq {c : Nat → Int32} {n T B Y G : Nat} {st : Nat × Nat × Nat × Bool} (h : CiS c n T B Y G st) (hn : n ≤ 8) (hT : T < 2 ^ n) (hB : B < 2 ^ n) (hY : Y < 2 ^ n) (hG : G < 2 ^ n) (hs : Sok n st) : f_X0_key c = lN (keyN n T B Y G st) := by
  have h8 : ∀ {a : Nat}, a < 2 ^ n → a < 256 := fun ha => Nat.lt_of_lt_of_le ha (Nat.pow_le_pow_right (by decide) hn)
  have hI := h8 hs.1
  have hS := h8 hs.2.1
  have hf := hs.2.2
  have hP := poseN_lt (st := st) (by omega) (by omega) (by omega)
  have hp := pose_eq h (by omega) (by omega) (by omega)
  obtain ⟨g0, g1, g2, g3, g4, -⟩ := h
  have q1 := h8 hT
  have q2 := h8 hB
  have q3 := h8 hY
  have q4 := h8 hG
  simp only [f_X0_key, bnd]
  rw [hp, g0, g1, g2, g3, g4, nI_l (by omega), nI_l (by omega), nI_l (by omega), nI_l (by omega), nI_l (by omega), nI_l (by omega), lshl8 (by omega) q1, lshl8 (by omega) q2, lshl8 (by omega) q3, lshl8 (by omega) q4, lshl23 (by omega) hP]
  rfl
theorem dm {k a b c d : Nat} (h : a * k + b = c * k + d) (hb : b < k) (hd : d < k) : a = c ∧ b = d := by
  have h1 : (a * k + b) / k = a := by rw [Nat.mul_comm, Nat.mul_add_div (by omega), Nat.div_eq_of_lt hb, Nat.add_zero]
  have h2 : (c * k + d) / k = c := by rw [Nat.mul_comm, Nat.mul_add_div (by omega), Nat.div_eq_of_lt hd, Nat.add_zero]
  have h3 : a = c := by rw [← h1, ← h2, h]
  subst h3
  exact ⟨rfl, by omega⟩
theorem keyN_inj {n T B Y G n' T' B' Y' G' : Nat} {st st' : Nat × Nat × Nat × Bool} (h : n ≤ 8 ∧ T < 2 ^ n ∧ B < 2 ^ n ∧ Y < 2 ^ n ∧ G < 2 ^ n ∧ Sok n st) (h' : n' ≤ 8 ∧ T' < 2 ^ n' ∧ B' < 2 ^ n' ∧ Y' < 2 ^ n' ∧ G' < 2 ^ n' ∧ Sok n' st') (e : keyN n T B Y G st = keyN n' T' B' Y' G' st') : n = n' ∧ T = T' ∧ B = B' ∧ Y = Y' ∧ G = G' ∧ st = st' := by
  have h8 : ∀ {n a : Nat}, n ≤ 8 → a < 2 ^ n → a < 256 := fun hn ha => Nat.lt_of_lt_of_le ha (Nat.pow_le_pow_right (by decide) hn)
  obtain ⟨hn, hT, hB, hY, hG, hs⟩ := h
  obtain ⟨hn', hT', hB', hY', hG', hs'⟩ := h'
  have := h8 hn hT; have := h8 hn hB; have := h8 hn hY; have := h8 hn hG; have hI := h8 hn hs.1; have hS := h8 hn hs.2.1; have hf := hs.2.2
  have := h8 hn' hT'; have := h8 hn' hB'; have := h8 hn' hY'; have := h8 hn' hG'; have hI' := h8 hn' hs'.1; have hS' := h8 hn' hs'.2.1; have hf' := hs'.2.2
  have hP := poseN_lt (st := st) (by omega) (by omega) (by omega)
  have hP' := poseN_lt (st := st') (by omega) (by omega) (by omega)
  have e' : ((((n * 256 + T) * 256 + B) * 256 + Y) * 256 + G) * 8388608 + poseN st = ((((n' * 256 + T') * 256 + B') * 256 + Y') * 256 + G') * 8388608 + poseN st' := e
  obtain ⟨e1, p1⟩ := dm e' hP hP'
  obtain ⟨e2, p2⟩ := dm e1 (by omega) (by omega)
  obtain ⟨e3, p3⟩ := dm e2 (by omega) (by omega)
  obtain ⟨e4, p4⟩ := dm e3 (by omega) (by omega)
  obtain ⟨e5, p5⟩ := dm e4 (by omega) (by omega)
  refine ⟨e5, p5, p4, p3, p2, ?_⟩
  obtain ⟨I, S, f, o⟩ := st
  obtain ⟨I', S', f', o'⟩ := st'
  have p1' : ((((if o then 1 else 0) * 16 + f) * 512 + S) * 512 + I) = ((((if o' then 1 else 0) * 16 + f') * 512 + S') * 512 + I') := p1
  have hI2 : I < 256 := hI
  have hS2 : S < 256 := hS
  have hf2 : f < n := hf
  have hI2' : I' < 256 := hI'
  have hS2' : S' < 256 := hS'
  have hf2' : f' < n' := hf'
  obtain ⟨r1, r2⟩ := dm p1' (by omega) (by omega)
  obtain ⟨r3, r4⟩ := dm r1 (by omega) (by omega)
  obtain ⟨r5, r6⟩ := dm r3 (by omega) (by omega)
  have ho : o = o' := by cases o <;> cases o' <;> simp at r5 <;> rfl
  rw [r2, r4, r6, ho]
theorem keyN_lt {n T B Y G : Nat} {st : Nat × Nat × Nat × Bool} (h : n ≤ 8 ∧ T < 2 ^ n ∧ B < 2 ^ n ∧ Y < 2 ^ n ∧ G < 2 ^ n ∧ Sok n st) : keyN n T B Y G st < 2 ^ 62 := by
  have h8 : ∀ {n a : Nat}, n ≤ 8 → a < 2 ^ n → a < 256 := fun hn ha => Nat.lt_of_lt_of_le ha (Nat.pow_le_pow_right (by decide) hn)
  obtain ⟨hn, hT, hB, hY, hG, hs⟩ := h
  have := h8 hn hT; have := h8 hn hB; have := h8 hn hY; have := h8 hn hG; have hI := h8 hn hs.1; have hS := h8 hn hs.2.1; have hf := hs.2.2
  have hP := poseN_lt (st := st) (by omega) (by omega) (by omega)
  show ((((n * 256 + T) * 256 + B) * 256 + Y) * 256 + G) * 8388608 + poseN st < 2 ^ 62
  omega
theorem keyN_m1 {k : Nat} (h : k < 2 ^ 62) : ¬ lN k = -1 := by
  intro e
  have := congrArg Int64.toInt e
  rw [pk_lT (by omega)] at this
  have h2 : (-1 : Int64).toInt = -1 := by decide
  omega
section
variable {n : Nat} {K : Nat → Nat} {T B Y G : Nat} {st : Nat × Nat × Nat × Bool}
theorem fewest_loop (hn : n ≤ 8) (a2 : Sok n st) (hB : KB n K T B Y G) {x1 : Int32} {V : Nat → Nat → Int32} (hV : ∀ b, 1 ≤ b → b ≤ 60 → V 17 b = one (down n T B Y G b n st).1) {L : Nat → Int64} :
    ∀ (m fuel fuel2 b : Nat) (V2 : Nat → Nat → Int32), A2 V2 n K st → b + m = 61 → 1 ≤ b → m < fuel → m < fuel2 →
      ∃ r W2, f_X1_fewestBeats_60 V L x1 fuel (nI b) = some (r, V, L) ∧ (∀ L2, f_X5_beatsFor_2 x1 fuel2 V2 L2 (nI b) = some (r, W2, L2)) ∧ RF V2 W2 := by
  intro m
  induction m with
  | zero =>
    intro fuel fuel2 b V2 hA hb hb1 hf hf2
    obtain ⟨g, rfl⟩ : ∃ g, fuel = g + 1 := ⟨fuel - 1, by omega⟩
    obtain ⟨g2, rfl⟩ : ∃ g, fuel2 = g + 1 := ⟨fuel2 - 1, by omega⟩
    refine ⟨-1, V2, ?_, fun L2 => ?_, RF.rf V2⟩
    · rw [f_X1_fewestBeats_60, if_pos (show (61 : Int32) ≤ nI b from nI_le (a := 61) (by omega) (by omega))]
    · rw [f_X5_beatsFor_2, if_pos (show (60 : Int32) < nI b from nI_lt (a := 60) (by omega) (by omega))]
  | succ m ih =>
    intro fuel fuel2 b V2 hA hb hb1 hf hf2
    obtain ⟨g, rfl⟩ : ∃ g, fuel = g + 1 := ⟨fuel - 1, by omega⟩
    obtain ⟨g2, rfl⟩ : ∃ g, fuel2 = g + 1 := ⟨fuel2 - 1, by omega⟩
    have e1 : f_X1_fewestBeats_60 V L x1 (g + 1) (nI b) = if one (down n T B Y G b n st).1 = x1 then some (nI b, V, L) else f_X1_fewestBeats_60 V L x1 g (nI (b + 1)) := by
      rw [f_X1_fewestBeats_60, if_neg (show ¬ (61 : Int32) ≤ nI b from nI_ge (b := 61) (by omega) (by decide)), if_pos (ib_nI (show b < 61 by omega) (by decide)), nI_clamp (by omega), hV b hb1 (by omega), nI_1]
    have hl : ∀ L2, f_X5_lastBy V2 L2 (nI b) = some (one (down n T B Y G b n st).1, setD (setSv V2 st) st, L2) := fun L2 => by
      have := lastBy_eq (L := L2) hA.2 (show n ≤ 9 by omega) hB hb1 (show b ≤ 99 by omega) a2
      rw [hA.sd] at this
      exact this
    have e2 : ∀ L2, f_X5_beatsFor_2 x1 (g2 + 1) V2 L2 (nI b) = if one (down n T B Y G b n st).1 = x1 then some (nI b, setD (setSv V2 st) st, L2) else f_X5_beatsFor_2 x1 g2 (setD (setSv V2 st) st) L2 (nI (b + 1)) := fun L2 => by
      rw [f_X5_beatsFor_2, if_neg (show ¬ (60 : Int32) < nI b from nI_nlt (a := 60) (by omega) (by decide)), hl L2]
      simp only [bd3, nI_1]
    by_cases hv : one (down n T B Y G b n st).1 = x1
    · exact ⟨nI b, _, by rw [e1, if_pos hv], fun L2 => by rw [e2 L2, if_pos hv], hA.svd⟩
    · obtain ⟨r, W2, k1, k2, k3⟩ := ih g g2 (b + 1) (setD (setSv V2 st) st) (hA.rf hA.svd) (by omega) (by omega) (by omega) (by omega)
      exact ⟨r, W2, by rw [e1, if_neg hv, k1], fun L2 => by rw [e2 L2, if_neg hv, k2 L2], hA.svd.tr k3⟩
theorem fill17 (hn : n ≤ 8) (a2 : Sok n st) {x1 : Int32} {y2 : Int64} {L : Nat → Int64} :
    ∀ (m fuel b : Nat) (V : Nat → Nat → Int32), CiS (V 6) n T B Y G st → (∀ j, 1 ≤ j → j < b → V 17 j = one (down n T B Y G j n st).1) → b + m = 61 → 1 ≤ b → m < fuel →
      ∃ W, (∀ j, 1 ≤ j → j ≤ 60 → W 17 j = one (down n T B Y G j n st).1) ∧ (∀ a, a ≠ 16 → a ≠ 17 → W a = V a) ∧ f_X1_fewestBeats_23 x1 y2 fuel V L (nI b) = f_X1_fewestBeats_60 W (setc L 3 y2) x1 20000 1 := by
  intro m
  induction m with
  | zero =>
    intro fuel b V hC hV hb hb1 hf
    obtain ⟨g, rfl⟩ : ∃ g, fuel = g + 1 := ⟨fuel - 1, by omega⟩
    refine ⟨V, fun j h1 h2 => hV j h1 (by omega), fun _ _ _ => rfl, ?_⟩
    rw [f_X1_fewestBeats_23, if_pos (show (61 : Int32) ≤ nI b from nI_le (a := 61) (by omega) (by omega))]
    rfl
  | succ m ih =>
    intro fuel b V hC hV hb hb1 hf
    obtain ⟨g, rfl⟩ : ∃ g, fuel = g + 1 := ⟨fuel - 1, by omega⟩
    obtain ⟨c2, e⟩ := leftBy_eq (L := L) (show n ≤ 9 by omega) hb1 (show b ≤ 99 by omega) hC a2
    have hV' : ∀ j, 1 ≤ j → j < b + 1 → up2 (setc V 16 c2) 17 b (one (down n T B Y G b n st).1) 17 j = one (down n T B Y G j n st).1 := by
      intro j h1 h2
      rw [up2_at, if_pos rfl]
      by_cases ej : j = b
      · rw [if_pos ej, ej]
      · rw [if_neg ej]
        exact hV j h1 (by omega)
    obtain ⟨W, w1, w2, w3⟩ := ih g (b + 1) (up2 (setc V 16 c2) 17 b (one (down n T B Y G b n st).1)) hC hV' (by omega) (by omega) (by omega)
    refine ⟨W, w1, fun a h1 h2 => ?_, ?_⟩
    · rw [w2 a h1 h2]
      show setc (setc V 16 c2) 17 _ a = V a
      rw [setc_ne _ _ h2, setc_ne _ _ h1]
    · rw [f_X1_fewestBeats_23, if_neg (show ¬ (61 : Int32) ≤ nI b from nI_ge (b := 61) (by omega) (by decide)), e]
      simp only [bd3]
      rw [if_pos (ib_nI (show b < 61 by omega) (by decide)), nI_clamp (by omega), nI_1]
      exact w3
end
section
variable {N s : Nat} {q : Nat → Nat} {ρ n : Nat} {K : Nat → Nat} {T B Y G : Nat} {st : Nat × Nat × Nat × Bool} {nv : Nat} {bt : Nat → Nat} {ct sn : Nat} {sf so : Nat → Nat} {V : Nat → Nat → Int32} {L : Nat → Int64} {V2 : Nat → Nat → Int32}
theorem fewest_lk (h : RelX N s q ρ n K T B Y G st nv bt ct sn sf so V L V2) (h0 : 0 < n) (x1 : Int32) : Lk V V2 (f_X1_fewestBeats V L x1) (fun L2 => f_X5_beatsFor V2 L2 x1) := by
  have ha := h.a2
  obtain ⟨h1, h2, h3, h4, h5, h6, h7, h8, h9⟩ := h
  have hn := h7.le
  obtain ⟨a1, a2, a3⟩ := h7.ok h0
  have hb := h3.2.2.2
  have bnds : n ≤ 8 ∧ T < 2 ^ n ∧ B < 2 ^ n ∧ Y < 2 ^ n ∧ G < 2 ^ n ∧ Sok n st := ⟨hn, hb.1, hb.2.1, hb.2.2.1, hb.2.2.2.1, a2⟩
  have hk := key_eq h3.1 hn hb.1 hb.2.1 hb.2.2.1 hb.2.2.2.1 a2
  have hlt := keyN_lt bnds
  unfold f_X1_fewestBeats
  rw [hk]
  by_cases hc : lg_cmp (lN (keyN n T B Y G st)) (L 3) = 0
  · rw [if_pos hc]
    rw [lg_cmp_eq] at hc
    have hV : ∀ b, 1 ≤ b → b ≤ 60 → V 17 b = one (down n T B Y G b n st).1 := by
      rcases h9.1 with e | ⟨n', T', B', Y', G', st', b', e, hv⟩
      · rw [e] at hc
        exact absurd hc (keyN_m1 hlt)
      · rw [e, pk_lEQ (by omega) (by have := keyN_lt b'; omega)] at hc
        obtain ⟨r1, r2, r3, r4, r5, r6⟩ := keyN_inj bnds b' hc
        subst r1 r2 r3 r4 r5 r6
        exact hv
    obtain ⟨r, W2, k1, k2, k3⟩ := fewest_loop (x1 := x1) (L := L) hn a2 hb hV 60 20000 20000 1 V2 ha (by omega) (by omega) (by omega) (by omega)
    exact ⟨r, V, L, W2, k1, k2, FC.rf V, k3, h9⟩
  · rw [if_neg hc]
    obtain ⟨W, w1, w2, w3⟩ := fill17 (x1 := x1) (y2 := lN (keyN n T B Y G st)) (L := L) hn a2 60 20000 1 V h3.1 (fun j h1 h2 => by omega) (by omega) (by omega) (by omega)
    obtain ⟨r, W2, k1, k2, k3⟩ := fewest_loop (x1 := x1) (L := setc L 3 (lN (keyN n T B Y G st))) hn a2 hb w1 60 20000 20000 1 V2 ha (by omega) (by omega) (by omega) (by omega)
    refine ⟨r, W, setc L 3 (lN (keyN n T B Y G st)), W2, w3.trans k1, k2, ⟨by rw [w2 1 (by decide) (by decide)], fun a ha => w2 a (by omega) (by omega)⟩, k3, Or.inr ⟨n, T, B, Y, G, st, bnds, rfl, w1⟩, ?_⟩
    have h92 := h9.2
    rw [← w2 18 (by decide) (by decide)] at h92
    exact h92
theorem child_lk (h : RelX N s q ρ n K T B Y G st nv bt ct sn sf so V L V2) {i w : Nat} (hi : i < n) (hw : w ≤ 5) : Lk V V2 (f_X4_child V L (nI i) (nI w)) (fun L2 => f_X5_childNow V2 L2 (nI i) (nI w)) := by
  have ha := h.a2
  have h' := h
  obtain ⟨h1, h2, h3, h4, h5, h6, h7, h8, h9⟩ := h'
  have hn := h7.le
  obtain ⟨a1, a2, a3⟩ := h7.ok (by omega)
  have hI9 := lt_pow (show n ≤ 9 by omega) a2.1
  have hS9 := lt_pow (show n ≤ 9 by omega) a2.2.1
  have nochange : ∀ r : Int32, f_X4_child V L (nI i) (nI w) = some (r, V, L) → (∀ L2, f_X5_childNow V2 L2 (nI i) (nI w) = some (r, V2, L2)) → Lk V V2 (f_X4_child V L (nI i) (nI w)) (fun L2 => f_X5_childNow V2 L2 (nI i) (nI w)) := fun r q1 q2 => ⟨r, V, L, V2, q1, q2, FC.rf V, RF.rf V2, h9⟩
  have hx4 : ∀ x, f_X4_child V L (nI i) x = (if x = 0 then some (nI (K i), V, L) else if x = 1 then some (bz (st.1.testBit i), V, L) else if x = 2 then some (bz (st.2.1.testBit i), V, L) else if x = 3 then some (nI (tkn T B i), V, L) else if x = 4 then (bd3 (f_X1_fewestBeats V L (nI i)) fun r_1 V_2 L_3 => some (r_1, V_2, L_3)) else if x = 5 then (if nI st.2.2.1 = nI i then some (1, V, L) else some (0, V, L)) else some (-102, V, L)) := by
    intro x
    unfold f_X4_child
    rw [hasChild_eq h3.1.1 (by omega), ib_nI hi (by omega), if_neg (show ¬ bz true = 0 by decide), kindOf_eq h3.1 h3.2.2.2 (by omega) hi, cisIn_eq h3.1.2.2.2.2.2.1 a2.1 (by omega) (by omega), cslip_eq h3.1.2.2.2.2.2.2.1 a2.2.1 (by omega) (by omega), takenBy_eq h3.1.2.1 h3.1.2.2.1 (by omega), h3.1.2.2.2.2.2.2.2.1]
    cases st.1.testBit i <;> cases st.2.1.testBit i <;> rfl
  have hx5 : ∀ x L2, f_X5_childNow V2 L2 (nI i) x = (if x = 0 then some (nI (K i), V2, L2) else if x = 1 then some (bz (st.1.testBit i), V2, L2) else if x = 2 then some (bz (st.2.1.testBit i), V2, L2) else if x = 3 then some (nI (tkn T B i), V2, L2) else if x = 4 then (bd3 (f_X5_beatsFor V2 L2 (nI i)) fun r_1 V_2 L_3 => some (r_1, V_2, L_3)) else (if nI st.2.2.1 = nI i then some (1, V2, L2) else some (0, V2, L2))) := by
    intro x L2
    unfold f_X5_childNow
    rw [if_pos (ib_nI (show i < 9 by omega) (by decide)), if_pos (ib_nI (show i < 9 by omega) (by decide)), nI_clamp (by omega), ha.2.2 i hi, takes_eq (h3.2.2.2.2.2.2.2 i hi).1, h3.2.2.2.tak hi, ha.1.1, ha.1.2.1, ha.1.2.2.1, isIn_eq (by omega) (by omega), isIn_eq (by omega) (by omega)]
    cases st.1.testBit i <;> cases st.2.1.testBit i <;> rfl
  have e : w = 0 ∨ w = 1 ∨ w = 2 ∨ w = 3 ∨ w = 4 ∨ w = 5 := by omega
  rcases e with e | e | e | e | e | e <;> subst e
  · exact nochange (nI (K i)) ((hx4 _).trans rfl) (fun L2 => (hx5 _ L2).trans rfl)
  · exact nochange (bz (st.1.testBit i)) ((hx4 _).trans rfl) (fun L2 => (hx5 _ L2).trans rfl)
  · exact nochange (bz (st.2.1.testBit i)) ((hx4 _).trans rfl) (fun L2 => (hx5 _ L2).trans rfl)
  · exact nochange (nI (tkn T B i)) ((hx4 _).trans rfl) (fun L2 => (hx5 _ L2).trans rfl)
  · obtain ⟨r, W, L1, W2, k1, k2, k3, k4, k5⟩ := fewest_lk h (by omega) (nI i)
    refine ⟨r, W, L1, W2, ?_, fun L2 => ?_, k3, k4, k5⟩
    · rw [hx4, if_neg (show ¬ nI 4 = 0 by decide), if_neg (show ¬ nI 4 = 1 by decide), if_neg (show ¬ nI 4 = 2 by decide), if_neg (show ¬ nI 4 = 3 by decide), if_pos (show nI 4 = 4 by decide), k1]
      rfl
    · have k2' : f_X5_beatsFor V2 L2 (nI i) = some (r, W2, L2) := k2 L2
      show f_X5_childNow V2 L2 (nI i) (nI 4) = _
      rw [hx5, if_neg (show ¬ nI 4 = 0 by decide), if_neg (show ¬ nI 4 = 1 by decide), if_neg (show ¬ nI 4 = 2 by decide), if_neg (show ¬ nI 4 = 3 by decide), if_pos (show nI 4 = 4 by decide), k2']
      rfl
  · by_cases ef : nI st.2.2.1 = nI i
    · exact nochange 1 ((hx4 _).trans (by rw [if_neg (show ¬ nI 5 = 0 by decide), if_neg (show ¬ nI 5 = 1 by decide), if_neg (show ¬ nI 5 = 2 by decide), if_neg (show ¬ nI 5 = 3 by decide), if_neg (show ¬ nI 5 = 4 by decide), if_pos (show nI 5 = 5 by decide), if_pos ef])) (fun L2 => (hx5 _ L2).trans (by rw [if_neg (show ¬ nI 5 = 0 by decide), if_neg (show ¬ nI 5 = 1 by decide), if_neg (show ¬ nI 5 = 2 by decide), if_neg (show ¬ nI 5 = 3 by decide), if_neg (show ¬ nI 5 = 4 by decide), if_pos ef]))
    · exact nochange 0 ((hx4 _).trans (by rw [if_neg (show ¬ nI 5 = 0 by decide), if_neg (show ¬ nI 5 = 1 by decide), if_neg (show ¬ nI 5 = 2 by decide), if_neg (show ¬ nI 5 = 3 by decide), if_neg (show ¬ nI 5 = 4 by decide), if_pos (show nI 5 = 5 by decide), if_neg ef])) (fun L2 => (hx5 _ L2).trans (by rw [if_neg (show ¬ nI 5 = 0 by decide), if_neg (show ¬ nI 5 = 1 by decide), if_neg (show ¬ nI 5 = 2 by decide), if_neg (show ¬ nI 5 = 3 by decide), if_neg (show ¬ nI 5 = 4 by decide), if_neg ef]))
end
theorem sim_child : Sim_child Rel := by
  rintro N V L V2 L2 x1 x2 hN ⟨s, q, ρ, n, K, T, B, Y, G, st, nv, bt, ct, sn, sf, so, h⟩
  have h3 := h.2.2.1
  have hn := h.2.2.2.2.2.2.1.le
  unfold f_X5_child
  rw [isChild_eq h3.2.2.1.1 (by omega)]
  by_cases hx : ib x1 n = true
  · rw [hx, if_neg (show ¬ bz true = 0 by decide), show f_X5_within x2 0 5 = bz (ib x2 6) from within_eq (n := 6) (by omega) x2]
    obtain ⟨i, hi, rfl⟩ := ib_of hx (by omega)
    by_cases hw : ib x2 6 = true
    · rw [hw, if_neg (show ¬ bz true = 0 by decide)]
      obtain ⟨w, hw6, rfl⟩ := ib_of hw (by omega)
      obtain ⟨r, W, L1, W2, k1, k2, k3⟩ := (child_lk h hi (show w ≤ 5 by omega)).rel h
      have k2' : f_X5_childNow V2 L2 (nI i) (nI w) = some (r, W2, L2) := k2 L2
      exact ⟨r, W, L1, W2, L2, k1, by rw [k2']; rfl, k3.up L2⟩
    · have hw0 : ib x2 6 = false := by simpa using hw
      rw [hw0]
      refine ⟨-102, V, L, V2, L2, ?_, if_pos rfl, h.up L2⟩
      unfold f_X4_child
      rw [hasChild_eq h3.1.1 (by omega), hx, if_neg (show ¬ bz true = 0 by decide), if_neg (fun e => by rw [e] at hw0; revert hw0; decide), if_neg (fun e => by rw [e] at hw0; revert hw0; decide), if_neg (fun e => by rw [e] at hw0; revert hw0; decide), if_neg (fun e => by rw [e] at hw0; revert hw0; decide), if_neg (fun e => by rw [e] at hw0; revert hw0; decide), if_neg (fun e => by rw [e] at hw0; revert hw0; decide)]
  · have hx0 : ib x1 n = false := by simpa using hx
    rw [hx0]
    refine ⟨-101, V, L, V2, L2, ?_, if_pos rfl, h.up L2⟩
    unfold f_X4_child
    rw [hasChild_eq h3.1.1 (by omega), hx0]
    rfl
