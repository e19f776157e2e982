/-! RING -/
theorem addBehind_eq {c : Nat → Int32} {j T B Y G I S f : Nat} {o : Bool} (h : Ci c j T B Y G I S f o) {k : Nat} (hj : j < 31) (hk : k ≤ 4) : Ci (f_X0_addBehind c (nI k)) (j + 1) (bset (decide (k = 1)) T j) (bset (decide (k = 2)) B j) (bset (decide (3 ≤ k)) Y j) (bset (decide (k = 4)) G j) (I ||| 2 ^ j) (dif S (2 ^ j)) f o := by
  unfold f_X0_addBehind
  rw [bnd_e, h.2.2.2.2.2.1, h.1, ishl_one j hj, fa_or]
  have h1 : Ci (upd c 5 (nI (I ||| 2 ^ j))) j T B Y G (I ||| 2 ^ j) S f o := h.up5
  rw [h1.1, bnd_e]
  have h2 := become_eq h1 (i := j) (k := k) hj hk
  rw [h2.1, bnd_e, nI_1]
  obtain ⟨g0, g1, g2, g3, g4, g5, g6, g7, g8⟩ := h2
  exact ⟨rfl, g1, g2, g3, g4, g5, g6, g7, g8⟩
theorem KB.add {j : Nat} {K : Nat → Nat} {T B Y G : Nat} (h : KB j K T B Y G) (hk : K j ≤ 4) : KB (j + 1) K (bset (decide (K j = 1)) T j) (bset (decide (K j = 2)) B j) (bset (decide (3 ≤ K j)) Y j) (bset (decide (K j = 4)) G j) := by
  obtain ⟨h1, h2, h3, h4, h5⟩ := h
  have up : ∀ {x : Nat}, x < 2 ^ j → x < 2 ^ (j + 1) := fun hx => Nat.lt_of_lt_of_le hx (Nat.pow_le_pow_right (by decide) (by omega))
  refine ⟨bset_lt (up h1) (by omega), bset_lt (up h2) (by omega), bset_lt (up h3) (by omega), bset_lt (up h4) (by omega), fun i hi => ?_⟩
  rw [bset_bit, bset_bit, bset_bit, bset_bit]
  by_cases e : i = j
  · simp only [e, if_true]
    exact ⟨hk, trivial, trivial, trivial, trivial⟩
  · simp only [e, if_false]
    exact h5 i (by omega)
theorem all_or : ∀ j, j < 9 → (2 ^ j - 1) ||| 2 ^ j = 2 ^ (j + 1) - 1 := by decide +kernel
theorem dif_0 (x : Nat) : dif 0 x = 0 := by unfold dif; simp
def setTail (V : Nat → Nat → Int32) (L : Nat → Int64) : Option ((Nat → Nat → Int32) × (Nat → Int64)) :=
  bnd (up2 V 5 2 (V 1 5)) fun V_1 =>
    bnd (setc V_1 7 (va_cpy (V_1 3) (V_1 7) ((0 : Int32)).toNatClampNeg ((0 : Int32)).toNatClampNeg ((3 : Int32)).toNatClampNeg)) fun V_2 =>
    bnd (up2 V_2 5 3 (0 : Int32)) fun V_3 =>
    bnd (up2 V_3 5 6 (0 : Int32)) fun V_4 =>
    some (V_4, L)
theorem setup_loop {c : Nat} {K : Nat → Nat} {L : Nat → Int64} (hc : c ≤ 8) (hK : ∀ i, i < c → K i < 5) :
    ∀ (m fuel j T B Y G : Nat) (V : Nat → Nat → Int32), V 1 7 = nI c → (∀ i, i < c → V 4 i = nI (K i)) → CiS (V 6) j T B Y G (2 ^ j - 1, 0, 0, true) → KB j K T B Y G → j + m = c → m < fuel →
      ∃ T B Y G W, KB c K T B Y G ∧ CiS (W 6) c T B Y G (2 ^ c - 1, 0, 0, true) ∧ (∀ a, a ≠ 6 → W a = V a) ∧ f_X3_setUp_9 fuel V L (nI j) = setTail W L := by
  intro m
  induction m with
  | zero =>
    intro fuel j T B Y G V h7 h4 hC hB hj hf
    obtain ⟨g, rfl⟩ : ∃ g, fuel = g + 1 := ⟨fuel - 1, by omega⟩
    have hjc : j = c := by omega
    subst hjc
    refine ⟨T, B, Y, G, V, hB, hC, fun _ _ => rfl, ?_⟩
    rw [f_X3_setUp_9, h7, if_pos (nI_le (by omega) (by omega))]
    rfl
  | succ m ih =>
    intro fuel j T B Y G V h7 h4 hC hB hj hf
    obtain ⟨g, rfl⟩ : ∃ g, fuel = g + 1 := ⟨fuel - 1, by omega⟩
    have hjc : j < c := by omega
    have hk := hK j hjc
    have h1 := addBehind_eq (show Ci (V 6) j T B Y G (2 ^ j - 1) 0 0 true from hC) (k := K j) (by omega) (by omega)
    rw [all_or j (by omega), dif_0] at h1
    obtain ⟨T', B', Y', G', W, w1, w2, w3, w4⟩ := ih g (j + 1) _ _ _ _ (setc V 6 (f_X0_addBehind (V 6) (nI (K j)))) h7 h4 h1 (hB.add (by omega)) (by omega) (by omega)
    refine ⟨T', B', Y', G', W, w1, w2, fun a ha => (w3 a ha).trans (setc_ne V _ ha), ?_⟩
    rw [f_X3_setUp_9, h7, if_neg (nI_ge hjc (by omega)), if_neg (show ¬ (8 : Int32) ≤ nI j from nI_ge (b := 8) (show j < 8 by omega) (by decide)), if_pos (ib_nI (show j < 8 by omega) (by decide)), nI_clamp (by omega), h4 j hjc, bnd_e, nI_1]
    exact w4
theorem setup_all {c v : Nat} {K : Nat → Nat} {L : Nat → Int64} {V : Nat → Nat → Int32} (hc : c ≤ 8) (hK : ∀ i, i < c → K i < 5) (h7 : V 1 7 = nI c) (h4 : ∀ i, i < c → V 4 i = nI (K i)) (h5 : V 1 5 = nI v) :
    ∃ T B Y G W, KB c K T B Y G ∧ CiS (W 6) c T B Y G (2 ^ c - 1, 0, 0, true) ∧ (W 5 2 = nI v ∧ W 5 3 = 0 ∧ W 5 6 = 0) ∧ (∀ i, i < 3 → W 7 i = V 3 i) ∧ (∀ a, a ≠ 5 → a ≠ 6 → a ≠ 7 → W a = V a) ∧ f_X3_setUp V L = some (W, L) := by
  have hC0 : CiS (setc V 6 (f_X0_clear (V 6)) 6) 0 0 0 0 0 (2 ^ 0 - 1, 0, 0, true) := ⟨rfl, rfl, rfl, rfl, rfl, rfl, rfl, rfl, rfl⟩
  have hB0 : KB 0 K 0 0 0 0 := ⟨by decide, by decide, by decide, by decide, fun i hi => by omega⟩
  obtain ⟨T, B, Y, G, U, u1, u2, u3, u4⟩ := setup_loop (L := L) hc hK c 20000 0 0 0 0 0 (setc V 6 (f_X0_clear (V 6))) h7 h4 hC0 hB0 (by omega) (by omega)
  have hu : ∀ a, a ≠ 6 → U a = V a := fun a ha => (u3 a ha).trans (setc_ne V _ ha)
  have ht : ∃ W, setTail U L = some (W, L) ∧ W 6 = U 6 ∧ (W 5 2 = U 1 5 ∧ W 5 3 = 0 ∧ W 5 6 = 0) ∧ W 7 = va_cpy (U 3) (U 7) 0 0 3 ∧ ∀ a, a ≠ 5 → a ≠ 7 → W a = U a := by
    unfold setTail
    rw [z_cl, z_cl3]
    obtain ⟨W0, e0, a0, b0, c0⟩ := up_ex U 5 2 (U 1 5)
    rw [e0, bnd_e, c0 3 (by decide), c0 7 (by decide)]
    obtain ⟨W1, e1, a1, c1⟩ := st_ex W0 7 (va_cpy (U 3) (U 7) 0 0 3)
    rw [e1, bnd_e]
    obtain ⟨W2, e2, a2, b2, c2⟩ := up_ex W1 5 3 0
    rw [e2, bnd_e]
    obtain ⟨W3, e3, a3, b3, c3⟩ := up_ex W2 5 6 0
    rw [e3, bnd_e]
    refine ⟨W3, rfl, ?_, ⟨?_, ?_, a3⟩, ?_, fun a h5 h7 => ?_⟩
    · rw [c3 6 (by decide), c2 6 (by decide), c1 6 (by decide), c0 6 (by decide)]
    · rw [b3 2 (by decide), b2 2 (by decide), c1 5 (by decide), a0]
    · rw [b3 3 (by decide), a2]
    · rw [c3 7 (by decide), c2 7 (by decide), a1]
    · rw [c3 a h5, c2 a h5, c1 a h7, c0 a h5]
  obtain ⟨W, t1, t2, t3, t4, t5⟩ := ht
  refine ⟨T, B, Y, G, W, u1, by rw [t2]; exact u2, ⟨by rw [t3.1, hu 1 (by decide)]; exact h5, t3.2.1, t3.2.2⟩, fun i hi => ?_, fun a h1 h2 h3 => (t5 a h1 h3).trans (hu a h2), ?_⟩
  · rw [t4, cpy0 hi, hu 3 (by decide)]
  · unfold f_X3_setUp
    rw [bnd_e, ← nI_0, u4, t1]
def ringTail (U : Nat → Nat → Int32) (L : Nat → Int64) : Option (Int32 × (Nat → Nat → Int32) × (Nat → Int64)) := bnd (up2 U 0 5 ((ishl (1 : Int32) (U 0 1)) - (1 : Int32))) fun V_1 => bnd (up2 V_1 0 6 (0 : Int32)) fun V_2 => bnd (up2 V_2 0 7 (0 : Int32)) fun V_3 => bnd (up2 V_3 0 8 (1 : Int32)) fun V_4 => bnd (up2 V_4 0 9 (0 : Int32)) fun V_5 => bnd (up2 V_5 0 0 ((V_5 0 0) + (1 : Int32))) fun V_6 => bnd (up2 V_6 0 10 (0 : Int32)) fun V_7 => bnd (up2 V_7 0 13 (0 : Int32)) fun V_8 => some (V_8 0 1, V_8, L)
theorem ringTail_eq {U : Nat → Nat → Int32} {c : Nat} (h1 : U 0 1 = nI c) (hc : c ≤ 8) : ∃ W, (∀ L, ringTail U L = some (nI c, W, L)) ∧ W 0 5 = nI (2 ^ c - 1) ∧ W 0 6 = 0 ∧ W 0 7 = 0 ∧ W 0 8 = 1 ∧ W 0 9 = 0 ∧ W 0 0 = U 0 0 + 1 ∧ W 0 10 = 0 ∧ W 0 13 = 0 ∧ (∀ b, b ≠ 5 → b ≠ 6 → b ≠ 7 → b ≠ 8 → b ≠ 9 → b ≠ 0 → b ≠ 10 → b ≠ 13 → W 0 b = U 0 b) ∧ ∀ a, a ≠ 0 → W a = U a := by
  unfold ringTail
  rw [h1, all_in c (by omega)]
  obtain ⟨W0, e0, a0, b0, c0⟩ := up_ex U 0 5 (nI (2 ^ c - 1))
  obtain ⟨W1, e1, a1, b1, c1⟩ := up_ex W0 0 6 0
  obtain ⟨W2, e2, a2, b2, c2⟩ := up_ex W1 0 7 0
  obtain ⟨W3, e3, a3, b3, c3⟩ := up_ex W2 0 8 1
  obtain ⟨W4, e4, a4, b4, c4⟩ := up_ex W3 0 9 0
  obtain ⟨W5, e5, a5, b5, c5⟩ := up_ex W4 0 0 (U 0 0 + 1)
  obtain ⟨W6, e6, a6, b6, c6⟩ := up_ex W5 0 10 0
  obtain ⟨W7, e7, a7, b7, c7⟩ := up_ex W6 0 13 0
  refine ⟨W7, fun L => ?_, ?_, ?_, ?_, ?_, ?_, ?_, ?_, ?_, fun b h0 h1 h2 h3 h4 h5 h6 h7 => ?_, fun a ha => ?_⟩
  · rw [e0, bnd_e, e1, bnd_e, e2, bnd_e, e3, bnd_e, e4, bnd_e, b4 0 (by decide), b3 0 (by decide), b2 0 (by decide), b1 0 (by decide), b0 0 (by decide), e5, bnd_e, e6, bnd_e, e7, bnd_e, b7 1 (by decide), b6 1 (by decide), b5 1 (by decide), b4 1 (by decide), b3 1 (by decide), b2 1 (by decide), b1 1 (by decide), b0 1 (by decide), h1]
  · rw [b7 5 (by decide), b6 5 (by decide), b5 5 (by decide), b4 5 (by decide), b3 5 (by decide), b2 5 (by decide), b1 5 (by decide), a0]
  · rw [b7 6 (by decide), b6 6 (by decide), b5 6 (by decide), b4 6 (by decide), b3 6 (by decide), b2 6 (by decide), a1]
  · rw [b7 7 (by decide), b6 7 (by decide), b5 7 (by decide), b4 7 (by decide), b3 7 (by decide), a2]
  · rw [b7 8 (by decide), b6 8 (by decide), b5 8 (by decide), b4 8 (by decide), a3]
  · rw [b7 9 (by decide), b6 9 (by decide), b5 9 (by decide), a4]
  · rw [b7 0 (by decide), b6 0 (by decide), a5]
  · rw [b7 10 (by decide), a6]
  · rw [a7]
  · rw [b7 b h7, b6 b h6, b5 b h5, b4 b h4, b3 b h3, b2 b h2, b1 b h1, b0 b h0]
  · rw [c7 a ha, c6 a ha, c5 a ha, c4 a ha, c3 a ha, c2 a ha, c1 a ha, c0 a ha]
theorem ring33 {s v c : Nat} {q : Nat → Nat} (hv : v ≤ 3) (hs : s ≤ 20) (hsv : s = 3 * v + c) (hg : ∀ j, j < v → goodN q j) :
    ∀ (m fuel j : Nat) (W : Nat → Nat → Int32), W 0 2 = nI v → (∀ i, i < s → W 14 i = nI (q i)) → (∀ i, i < j → W 3 i = nI (bvN q i)) → j + m = v → m < fuel → ∃ U, (∀ i, i < v → U 3 i = nI (bvN q i)) ∧ (∀ a, a ≠ 3 → U a = W a) ∧ ∀ L, f_X5_ring_33 fuel W L (nI j) = f_X5_ring_83 20000 U L 0 := by
  intro m
  induction m with
  | zero =>
    intro fuel j W h2 h14 h3 hj hf
    obtain ⟨g, rfl⟩ : ∃ g, fuel = g + 1 := ⟨fuel - 1, by omega⟩
    refine ⟨W, fun i hi => h3 i (by omega), fun _ _ => rfl, fun L => ?_⟩
    rw [f_X5_ring_33, h2, if_pos (nI_le (by omega) (by omega))]
  | succ m ih =>
    intro fuel j W h2 h14 h3 hj hf
    obtain ⟨g, rfl⟩ : ∃ g, fuel = g + 1 := ⟨fuel - 1, by omega⟩
    have hjv : j < v := by omega
    obtain ⟨⟨g1, g2⟩, ⟨g3, g4⟩, g5⟩ := hg j hjv
    have i3 : (3 : Int32) * nI j = nI (3 * j) := pk_mul 3 j
    have hval : ((10 : Int32) * (nI (q (3 * j)) - (48 : Int32)) + nI (q (3 * j + 1))) - (48 : Int32) = nI (bvN q j) := by
      unfold bvN
      rw [show (48 : Int32) = nI 48 from rfl, pk_sub g1, show (10 : Int32) = nI 10 from rfl, pk_mul, nI_add, pk_sub (by omega)]
      congr 1
      omega
    obtain ⟨U, u1, u2, u3⟩ := ih g (j + 1) (up2 W 3 j (nI (bvN q j))) h2 h14 (fun i hi => by
      show upd (W 3) j (nI (bvN q j)) i = _
      by_cases e : i = j
      · rw [e, pk_us]
      · rw [pk_un e]
        exact h3 i (by omega)) (by omega) (by omega)
    refine ⟨U, u1, fun a ha => (u2 a ha).trans (setc_ne W _ ha), fun L => ?_⟩
    rw [f_X5_ring_33, h2, if_neg (nI_ge hjv (by omega)), i3, nI_1, nI_1, if_pos (ib_nI (show 3 * j < 20 by omega) (by decide)), if_pos (ib_nI (show 3 * j + 1 < 20 by omega) (by decide)), if_pos (ib_nI (show j < 3 by omega) (by decide)), nI_clamp (by omega), nI_clamp (by omega), nI_clamp (by omega), h14 (3 * j) (by omega), h14 (3 * j + 1) (by omega), hval]
    exact u3 L
theorem ring83 {s v c : Nat} {q : Nat → Nat} (hv : v ≤ 3) (hc : c ≤ 8) (hs : s ≤ 20) (hsv : s = 3 * v + c) (hq : ∀ i, i < s → 32 ≤ q i ∧ q i ≤ 126) (hk : ∀ j, j < c → kdN (q (3 * v + j)) < 5) :
    ∀ (m fuel j : Nat) (W : Nat → Nat → Int32), W 0 1 = nI c → W 0 2 = nI v → (∀ i, i < s → W 14 i = nI (q i)) → (∀ i, i < j → W 4 i = nI (kdN (q (3 * v + i)))) → j + m = c → m < fuel → ∃ U, (∀ i, i < c → U 4 i = nI (kdN (q (3 * v + i)))) ∧ (∀ a, a ≠ 4 → U a = W a) ∧ ∀ L, f_X5_ring_83 fuel W L (nI j) = ringTail U L := by
  intro m
  induction m with
  | zero =>
    intro fuel j W h1 h2 h14 h4 hj hf
    obtain ⟨g, rfl⟩ : ∃ g, fuel = g + 1 := ⟨fuel - 1, by omega⟩
    refine ⟨W, fun i hi => h4 i (by omega), fun _ _ => rfl, fun L => ?_⟩
    rw [f_X5_ring_83, h1, if_pos (nI_le (by omega) (by omega))]
    unfold ringTail
    rw [h1]
  | succ m ih =>
    intro fuel j W h1 h2 h14 h4 hj hf
    obtain ⟨g, rfl⟩ : ∃ g, fuel = g + 1 := ⟨fuel - 1, by omega⟩
    have hjc : j < c := by omega
    have i3 : (3 : Int32) * nI v + nI j = nI (3 * v + j) := by rw [show (3 : Int32) = nI 3 from rfl, pk_mul, nI_add]
    have hkd := hk j hjc
    have hx : q (3 * v + j) < 127 := by have := (hq (3 * v + j) (by omega)).2; omega
    obtain ⟨U, u1, u2, u3⟩ := ih g (j + 1) (up2 W 4 j (nI (kdN (q (3 * v + j))))) h1 h2 h14 (fun i hi => by
      show upd (W 4) j (nI (kdN (q (3 * v + j)))) i = _
      by_cases e : i = j
      · rw [e, pk_us]
      · rw [pk_un e]
        exact h4 i (by omega)) (by omega) (by omega)
    refine ⟨U, u1, fun a ha => (u2 a ha).trans (setc_ne W _ ha), fun L => ?_⟩
    rw [f_X5_ring_83, h1, if_neg (nI_ge hjc (by omega)), h2, i3, if_pos (ib_nI (show 3 * v + j < 20 by omega) (by decide)), if_pos (ib_nI (show j < 9 by omega) (by decide)), nI_clamp (by omega), nI_clamp (by omega), h14 _ (by omega), kind5 _ hx, if_pos hkd, nI_1]
    exact u3 L
theorem sim_ring : Sim_ring Rel := by
  rintro N V L V2 L2 hN ⟨s, q, ρ, n, K, T, B, Y, G, st, nv, bt, ct, sn, sf, so, h⟩
  obtain ⟨r, V', W', i0, i1, i2, i3, i4, c, j1, j2, j3⟩ := fault_both h
  have hrel := (h.fr i3.fc i4.rF (h.2.2.2.2.2.2.2.2.same (i3.2 17 (by decide) (by decide) (by decide)) (i3.2 18 (by decide) (by decide) (by decide)) rfl rfl))
  obtain ⟨e1, e2, e3, e4⟩ := hrel.1
  have i2' := i2 L2
  have hir : f_X2_isRing V L = some (bz (decide (r = s ∧ 2 ≤ c)), V', L) := by
    unfold f_X2_isRing
    rw [i1, bd3_s, e1, j1]
    by_cases h1 : r = s
    · rw [if_pos (by rw [h1])]
      by_cases h2 : 2 ≤ c
      · rw [if_neg (show ¬ nI c < (2 : Int32) from nI_nlt (b := 2) h2 (by omega)), decide_eq_true ⟨h1, h2⟩]
        rfl
      · rw [if_pos (show nI c < (2 : Int32) from nI_lt (b := 2) (by omega) (by decide)), decide_eq_false (by omega)]
        rfl
    · rw [if_neg (fun e => h1 ((nI_eq (by omega) (by omega)).mp e)), decide_eq_false (by omega)]
      rfl
  unfold f_X4_ring f_X5_ring
  rw [hir, i2', bd3_s, bd3_s]
  rcases j3 with ⟨n1, n2⟩ | ⟨n1, n2, n3, v, v1, v2, v3, v4, v5, v6, v7, v8⟩
  · rw [decide_eq_false n1, n2]
    exact ⟨-103, V', L, W', L2, if_pos rfl, if_pos rfl, hrel.up L2⟩
  · rw [decide_eq_true ⟨n1, n2⟩, n3, if_neg (show ¬ bz true = 0 by decide), if_neg (show ¬ (1 : Int32) = 0 by decide)]
    obtain ⟨T', B', Y', G', U, s1, s2, s3, s4, s5, s6⟩ := setup_all (L := L) j2 (fun i hi => (v8 i hi).2) j1 (fun i hi => (v8 i hi).1) v4
    rw [s6, bd2_s]
    obtain ⟨U0, p0, p1, p2, p3⟩ := up_ex U 1 1 0
    rw [p0, bnd_e]
    obtain ⟨U1, q0, q1, q2, q3⟩ := up_ex U0 0 4 0
    rw [q0, bnd_e]
    obtain ⟨U2, r0, r1, r2, r3⟩ := up_ex U1 0 5 (U1 0 5 + 1)
    rw [r0, bnd_e]
    obtain ⟨Q0, x0, x1, x2, x3⟩ := up_ex W' 0 2 (W' 0 16)
    rw [x0, bnd_e]
    obtain ⟨Q1, y0, y1, y2, y3⟩ := up_ex Q0 0 1 (Q0 0 17)
    rw [y0, bnd_e]
    have hq : ∀ i, i < s → 32 ≤ q i ∧ q i ≤ 126 := fun i hi => (e4 i hi).2.2
    have hQ1 : Q1 0 1 = nI c := by rw [y1, x2 17 (by decide), v6]
    have hQ2 : Q1 0 2 = nI v := by rw [y2 2 (by decide), x1, v5]
    have hQ14 : ∀ i, i < s → Q1 14 i = nI (q i) := fun i hi => by rw [y3 14 (by decide), x3 14 (by decide)]; exact (e4 i hi).2.1
    obtain ⟨R, z1, z2, z3⟩ := ring33 v2 e3 v3 (fun j hj => (v7 j hj).2) v 20000 0 Q1 hQ2 hQ14 (fun i hi => by omega) (by omega) (by omega)
    have hR1 : R 0 1 = nI c := by rw [z2 0 (by decide)]; exact hQ1
    have hR2 : R 0 2 = nI v := by rw [z2 0 (by decide)]; exact hQ2
    have hR14 : ∀ i, i < s → R 14 i = nI (q i) := fun i hi => by rw [z2 14 (by decide)]; exact hQ14 i hi
    obtain ⟨R2, w1, w2, w3⟩ := ring83 v2 j2 e3 v3 hq (fun j hj => (v8 j hj).2) c 20000 0 R hR1 hR2 hR14 (fun i hi => by omega) (by omega) (by omega)
    obtain ⟨R3, t0, t5, t6, t7, t8, t9, t00, t10, t13, tb, ta⟩ := ringTail_eq (U := R2) (show R2 0 1 = nI c by rw [w2 0 (by decide)]; exact hR1) j2
    have z3' := z3 L2
    have w3' := w3 L2
    rw [nI_0] at z3' w3'
    have f0 : ∀ b, b ≠ 1 → b ≠ 2 → R2 0 b = W' 0 b := fun b h1 h2 => by rw [w2 0 (by decide), z2 0 (by decide), y2 b h1, x2 b h2]
    have fa : ∀ a, a ≠ 0 → a ≠ 3 → a ≠ 4 → R3 a = W' a := fun a h0 h3 h4 => by rw [ta a h0, w2 a h4, z2 a h3, y3 a h0, x3 a h0]
    obtain ⟨h1, h2, h3, h4, h5, h6, h7, h8, h9⟩ := hrel
    have u0 : ∀ b, b ≠ 4 → b ≠ 5 → U2 0 b = V' 0 b := fun b hb4 hb5 => by rw [r2 b hb5, q2 b hb4, p3 0 (by decide), s5 0 (by decide) (by decide) (by decide)]
    have ua : ∀ a, a ≠ 0 → a ≠ 1 → U2 a = U a := fun a ha0 ha1 => by rw [r3 a ha0, q3 a ha0, p3 a ha1]
    have u5 : U1 0 5 = nI ρ := by rw [q2 5 (by decide), p3 0 (by decide), s5 0 (by decide) (by decide) (by decide)]; exact h2.1
    obtain ⟨km, κ, k1, k2, k3, k4, k5⟩ := h8
    refine ⟨nI c, U2, L, R3, L2, ?_, ?_, 0, q, ρ + 1, c, fun i => kdN (q (3 * v + i)), T', B', Y', G', (2 ^ c - 1, 0, 0, true), v, bvN q, 0, 0, sf, so, ⟨?_, t13, by omega, fun i hi => by omega⟩, ⟨?_, ?_, ?_⟩, ⟨?_, ⟨t5, t6, t7, t8⟩, ⟨?_, fun i hi => ?_⟩, s1⟩, ⟨?_, ?_, v2, fun j hj => ⟨?_, ?_, ?_, ?_⟩⟩, ⟨?_, t9, by omega⟩, ⟨?_, t10, by omega, fun k hk => by omega⟩, Or.inr ⟨n2, j2, ⟨Nat.sub_lt (Nat.two_pow_pos c) (by decide), Nat.two_pow_pos c, ?_⟩, v1⟩, ⟨km, κ, ?_, ?_, by omega, ?_, fun _ hh => ?_⟩, ?_⟩
    · rw [ua 6 (by decide) (by decide), s2.1]
    · rw [← nI_0, nI_0, z3', w3', t0 L2]
    · rw [r3 1 (by decide), q3 1 (by decide), p1]; rfl
    · rw [r1, u5, nI_1]
    · rw [t00, f0 0 (by decide) (by decide), h2.2.1, nI_1]
    · have := h2.2.2
      omega
    · rw [ua 6 (by decide) (by decide)]; exact s2
    · rw [tb 1 (by decide) (by decide) (by decide) (by decide) (by decide) (by decide) (by decide) (by decide), w2 0 (by decide)]; exact hR1
    · rw [ta 4 (by decide)]; exact w1 i hi
    · rw [ua 5 (by decide) (by decide)]; exact s3.1
    · rw [tb 2 (by decide) (by decide) (by decide) (by decide) (by decide) (by decide) (by decide) (by decide), w2 0 (by decide)]; exact hR2
    · rw [ua 7 (by decide) (by decide), s4 j (by omega)]; exact (v7 j hj).1
    · rw [ta 3 (by decide), w2 3 (by decide)]; exact z1 j hj
    · exact (v7 j hj).2.2.2
    · have hg := (v7 j hj).2
      unfold goodN at hg
      unfold bvN
      omega
    · rw [ua 5 (by decide) (by decide)]; exact s3.2.1
    · rw [ua 5 (by decide) (by decide)]; exact s3.2.2
    · show 0 < c
      omega
    · rw [tb 37 (by decide) (by decide) (by decide) (by decide) (by decide) (by decide) (by decide) (by decide), f0 37 (by decide) (by decide)]; exact k1
    · rw [tb 38 (by decide) (by decide) (by decide) (by decide) (by decide) (by decide) (by decide) (by decide), f0 38 (by decide) (by decide)]; exact k2
    · rw [r2 4 (by decide), q1, decide_eq_false (show ¬ κ = ρ + 1 by omega)]
      cases km <;> rfl
    · omega
    · exact h9.same (by rw [ua 17 (by decide) (by decide), s5 17 (by decide) (by decide) (by decide)]) (by rw [ua 18 (by decide) (by decide), s5 18 (by decide) (by decide) (by decide)]) rfl rfl
