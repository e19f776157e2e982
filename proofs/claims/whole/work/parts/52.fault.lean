theorem FP.up1 (V : Nat → Nat → Int32) {k : Nat} (x : Int32) (hk : k ≠ 1) : FP V (up2 V 1 k x) := by
  refine ⟨?_, fun a h1 _ _ => setc_ne V _ h1⟩
  rw [up2_at, if_pos rfl, if_neg (fun e => hk e.symm)]
theorem FP.up3 (V : Nat → Nat → Int32) (k : Nat) (x : Int32) : FP V (up2 V 3 k x) := ⟨rfl, fun _ _ h _ => setc_ne V _ h⟩
theorem FP.up4 (V : Nat → Nat → Int32) (k : Nat) (x : Int32) : FP V (up2 V 4 k x) := ⟨rfl, fun _ _ _ h => setc_ne V _ h⟩
section
variable {V : Nat → Nat → Int32} {L : Nat → Int64} {s : Nat} {q : Nat → Nat}
theorem ff_end {g k : Nat} (h1 : V 1 1 = nI s) (hk : k = s) (hs : s ≤ 20) : f_X2_firstFault_17 (g + 1) V L (nI k) = some (nI s, V, L) := by
  rw [f_X2_firstFault_17, h1, if_pos (nI_le (by omega) (by omega))]
theorem ff_go {g k : Nat} {V' : Nat → Nat → Int32} (h1 : V 1 1 = nI s) (h2 : V 2 k = nI (q k)) (hk : k < s) (hs : s ≤ 20) (hr : f_X2_reads V L (nI (q k)) = some (1, V', L)) : f_X2_firstFault_17 (g + 1) V L (nI k) = f_X2_firstFault_17 g V' L (nI (k + 1)) := by
  rw [f_X2_firstFault_17, h1, if_neg (nI_ge hk (by omega)), if_neg (show ¬ (20 : Int32) ≤ nI k from nI_ge (b := 20) (show k < 20 by omega) (by decide)), if_pos (ib_nI (show k < 20 by omega) (by decide)), nI_clamp (by omega), h2, hr, bd3_s, if_neg (by decide), nI_1]
theorem ff_no {g k : Nat} (h1 : V 1 1 = nI s) (h2 : V 2 k = nI (q k)) (hk : k < s) (hs : s ≤ 20) (hr : f_X2_reads V L (nI (q k)) = some (0, V, L)) : f_X2_firstFault_17 (g + 1) V L (nI k) = some (nI k, V, L) := by
  rw [f_X2_firstFault_17, h1, if_neg (nI_ge hk (by omega)), if_neg (show ¬ (20 : Int32) ≤ nI k from nI_ge (b := 20) (show k < 20 by omega) (by decide)), if_pos (ib_nI (show k < 20 by omega) (by decide)), nI_clamp (by omega), h2, hr, bd3_s, if_pos rfl]
theorem reads0 (h2 : V 1 2 = nI 0) {x : Nat} (hx : x < 127) : f_X2_reads V L (nI x) = if 48 ≤ x ∧ x ≤ 57 then some (1, up2 (up2 V 1 3 (nI (x - 48))) 1 2 1, L) else some (0, V, L) := by
  unfold f_X2_reads f_X2_readsTens
  rw [h2, if_pos (show nI 0 = 0 by decide)]
  by_cases h : x < 48
  · rw [if_pos (show nI x < (48 : Int32) from nI_lt (b := 48) h (by decide)), if_neg (by omega)]
    rfl
  · rw [if_neg (show ¬ nI x < (48 : Int32) from nI_nlt (b := 48) (by omega) (by omega))]
    by_cases h2 : x ≤ 57
    · rw [if_pos (show nI x ≤ (57 : Int32) from nI_le (b := 57) h2 (by decide)), if_pos (by omega), show nI x - (48 : Int32) = nI (x - 48) from pk_sub (b := 48) (by omega)]
      rfl
    · rw [if_neg (show ¬ nI x ≤ (57 : Int32) from nI_ge (a := 57) (by omega) (by omega)), if_neg (by omega)]
      rfl
theorem reads1 (h2 : V 1 2 = nI 1) {t v : Nat} (h3 : V 1 3 = nI t) (ht : t ≤ 9) (h5 : V 1 5 = nI v) (hv : v < 3) {x : Nat} (hx : x < 127) : f_X2_reads V L (nI x) = if (48 ≤ x ∧ x ≤ 57) ∧ 1 ≤ 10 * t + (x - 48) then some (1, up2 (up2 (up2 V 3 v (nI (10 * t + (x - 48)))) 1 5 (nI (v + 1))) 1 2 2, L) else some (0, V, L) := by
  unfold f_X2_reads f_X2_readsOnes
  rw [h2, if_neg (show ¬ nI 1 = 0 by decide), if_pos (show nI 1 = 1 by decide), bnd_e]
  by_cases h : x < 48
  · rw [if_pos (show nI x < (48 : Int32) from nI_lt (b := 48) h (by decide)), if_neg (by omega)]
    rfl
  · rw [if_neg (show ¬ nI x < (48 : Int32) from nI_nlt (b := 48) (by omega) (by omega))]
    by_cases h2 : x ≤ 57
    · have hnum : (10 : Int32) * V 1 3 + nI x - 48 = nI (10 * t + (x - 48)) := by
        rw [h3, show (10 : Int32) = nI 10 from rfl, pk_mul, nI_add, show (48 : Int32) = nI 48 from rfl, pk_sub (by omega)]
        congr 1
        omega
      rw [if_neg (show ¬ (57 : Int32) < nI x from nI_nlt (a := 57) (by omega) (by decide)), hnum]
      by_cases h6 : 1 ≤ 10 * t + (x - 48)
      · rw [if_neg (show ¬ nI (10 * t + (x - 48)) < (1 : Int32) from nI_nlt (b := 1) h6 (by omega)), h5, if_pos (show nI v < (3 : Int32) from nI_lt (b := 3) hv (by decide)), if_pos (ib_nI hv (by decide)), nI_clamp (by omega), if_pos (by omega), bnd_e, show up2 V 3 v (nI (10 * t + (x - 48))) 1 5 = nI v from h5, nI_1]
        rfl
      · rw [if_pos (show nI (10 * t + (x - 48)) < (1 : Int32) from nI_lt (b := 1) (by omega) (by decide)), if_neg (by omega)]
        rfl
    · rw [if_pos (show (57 : Int32) < nI x from nI_lt (a := 57) (by omega) (by omega)), if_neg (by omega)]
      rfl
theorem reads2 (h2 : V 1 2 = nI 2) {v : Nat} (h5 : V 1 5 = nI v) (hv : v ≤ 3) {x : Nat} (hx : x < 127) : f_X2_reads V L (nI x) = if x = 44 ∧ v < 3 then some (1, up2 V 1 2 0, L) else if x = 59 then some (1, up2 V 1 2 3, L) else some (0, V, L) := by
  unfold f_X2_reads f_X2_readsBetween f_X2_readsBetween_21
  rw [h2, if_neg (show ¬ nI 2 = 0 by decide), if_neg (show ¬ nI 2 = 1 by decide), if_pos (show nI 2 = 2 by decide), h5]
  by_cases h : x = 44
  · rw [h, if_pos (show nI 44 = (44 : Int32) by decide)]
    by_cases h3 : v < 3
    · rw [if_neg (show ¬ (3 : Int32) ≤ nI v from nI_ge (b := 3) h3 (by decide)), if_pos ⟨rfl, h3⟩]
      rfl
    · rw [if_pos (show (3 : Int32) ≤ nI v from nI_le (a := 3) (by omega) (by omega)), if_neg (show ¬ nI 44 = (59 : Int32) by decide), if_neg (by omega), if_neg (by omega)]
      rfl
  · rw [if_neg (show ¬ nI x = (44 : Int32) from fun e => h ((nI_eq (b := 44) (by omega) (by decide)).mp e)), if_neg (show ¬ (x = 44 ∧ v < 3) by omega)]
    by_cases h4 : x = 59
    · rw [h4, if_pos (show nI 59 = (59 : Int32) by decide), if_pos rfl]
      rfl
    · rw [if_neg (show ¬ nI x = (59 : Int32) from fun e => h4 ((nI_eq (b := 59) (by omega) (by decide)).mp e)), if_neg h4]
      rfl
theorem reads3 (h2 : V 1 2 = nI 3) {c : Nat} (h7 : V 1 7 = nI c) (hc : c ≤ 8) {x : Nat} (hx : x < 127) : f_X2_reads V L (nI x) = if kdN x < 5 ∧ c < 8 then some (1, up2 (up2 V 4 c (nI (kdN x))) 1 7 (nI (c + 1)), L) else some (0, V, L) := by
  unfold f_X2_reads f_X2_readsChild
  rw [h2, if_neg (show ¬ nI 3 = 0 by decide), if_neg (show ¬ nI 3 = 1 by decide), if_neg (show ¬ nI 3 = 2 by decide), kind4 x hx]
  by_cases hk : kdN x < 5
  · rw [if_pos hk, if_neg (nI_pos (by omega)), h7]
    by_cases h8 : c < 8
    · rw [if_pos (show nI c < (8 : Int32) from nI_lt (b := 8) h8 (by decide)), if_pos (ib_nI h8 (by decide)), nI_clamp (by omega), if_pos ⟨hk, h8⟩, bnd_e, show up2 V 4 c (nI (kdN x)) 1 7 = nI c from h7, nI_1]
      rfl
    · rw [if_neg (show ¬ nI c < (8 : Int32) from nI_nlt (b := 8) (by omega) (by omega)), if_neg (by omega)]
      rfl
  · rw [if_neg hk, if_pos (by decide), if_neg (by omega)]
    rfl
end
theorem rc39 {W : Nat → Nat → Int32} {L : Nat → Int64} {s c k : Nat} (h13 : W 0 13 = nI s) (h17 : W 0 17 = nI c) (hs : s ≤ 20) (hc : c ≤ 8) (hk : k ≤ 30) : f_X5_readChildren_39 W L (nI k) = some (nI k, up2 W 0 15 (if 2 ≤ c ∧ k = s then 1 else 0), L) := by
  unfold f_X5_readChildren_39
  rw [h17, h13]
  by_cases h1 : c ≤ 1
  · rw [if_pos (show nI c ≤ (1 : Int32) from nI_le (b := 1) h1 (by decide)), if_neg (by omega)]
    rfl
  · rw [if_neg (show ¬ nI c ≤ (1 : Int32) from nI_ge (a := 1) (by omega) (by omega))]
    by_cases h2 : k = s
    · rw [if_pos (by rw [h2]), if_pos ⟨by omega, h2⟩]
      rfl
    · rw [if_neg (fun e => h2 ((nI_eq (by omega) (by omega)).mp e)), if_neg (by omega)]
      rfl
theorem child_step {W : Nat → Nat → Int32} {L : Nat → Int64} {s v c g : Nat} {q : Nat → Nat} (h : PR W s q v c) (hs : s ≤ 20) (hq : ∀ i, i < s → 32 ≤ q i ∧ q i ≤ 126) (hc : c ≤ 8) {k : Nat} (hk : k ≤ 30) : f_X5_readChildren_2 (g + 1) W L (nI k) = if kdN (atN q s k) < 5 ∧ c < 8 then f_X5_readChildren_2 g (up2 W 0 17 (nI (c + 1))) L (nI (k + 1)) else some (nI k, up2 W 0 15 (if 2 ≤ c ∧ k = s then 1 else 0), L) := by
  obtain ⟨⟨h13, h15, h16, h17⟩, h14⟩ := h
  rw [f_X5_readChildren_2, h17, rc39 h13 h17 hs hc hk, at_eq h13 h14 hs (show k < 100 by omega), bd1_s, kind5 _ (atN_lt hq), nI_1, nI_1]
  by_cases h8 : c < 8
  · rw [if_neg (show ¬ (8 : Int32) ≤ nI c from nI_ge (b := 8) h8 (by decide))]
    by_cases hd : kdN (atN q s k) < 5
    · rw [if_pos hd, if_neg (show ¬ nI (kdN (atN q s k)) = (-1 : Int32) from fun e => by
        have := congrArg Int32.toInt e
        rw [nI_toInt (by omega)] at this
        have h2 : (-1 : Int32).toInt = -1 := by decide
        omega), if_pos ⟨hd, h8⟩]
      rfl
    · rw [if_neg hd, if_pos rfl, if_neg (show ¬ (kdN (atN q s k) < 5 ∧ c < 8) by omega)]
  · rw [if_pos (show (8 : Int32) ≤ nI c from nI_le (a := 8) (by omega) (by omega)), if_neg (show ¬ (kdN (atN q s k) < 5 ∧ c < 8) by omega)]
section
variable {s : Nat} {q : Nat → Nat}
theorem children_loop (hs : s ≤ 20) (hq : ∀ i, i < s → 32 ≤ q i ∧ q i ≤ 126) {v : Nat} (hv1 : 1 ≤ v) (hv3 : v ≤ 3) :
    ∀ (m fuel fuel2 c : Nat) (V : Nat → Nat → Int32) (L : Nat → Int64) (W : Nat → Nat → Int32), PC V s q 3 v c → BV V q v → KVd V q v c → PR W s q v c → 3 * v + c + m = s → c ≤ 8 → m < fuel → m < fuel2 →
      ∃ r V' W', r ≤ 20 ∧ f_X2_firstFault_17 fuel V L (nI (3 * v + c)) = some (nI r, V', L) ∧ (∀ L2, f_X5_readChildren_2 fuel2 W L2 (nI (3 * v + c)) = some (nI r, W', L2)) ∧ FP V V' ∧ FR W W' ∧ Dn s q r V' W' := by
  intro m
  induction m with
  | zero =>
    intro fuel fuel2 c V L W hP hB hK hR hm hc hf hf2
    obtain ⟨g, rfl⟩ : ∃ g, fuel = g + 1 := ⟨fuel - 1, by omega⟩
    obtain ⟨g2, rfl⟩ : ∃ g, fuel2 = g + 1 := ⟨fuel2 - 1, by omega⟩
    have hk : 3 * v + c = s := by omega
    refine ⟨s, V, up2 W 0 15 (if 2 ≤ c ∧ 3 * v + c = s then 1 else 0), hs, ff_end hP.1.1 hk hs, fun L2 => ?_, FP.rf V, FR.up W _ (Or.inl rfl), c, hP.1.2.2.2, hc, ?_⟩
    · rw [child_step hR hs hq hc (by omega), if_neg (by rw [hk]; unfold atN; rw [if_neg (by omega)]; exact fun e => absurd e.1 (by decide)), hk]
    · by_cases h2 : 2 ≤ c
      · refine Or.inr ⟨rfl, h2, ?_, v, hv1, hv3, by omega, hP.1.2.2.1, hR.1.2.2.1, hR.1.2.2.2, hB, hK⟩
        rw [if_pos ⟨h2, hk⟩]
        rfl
      · refine Or.inl ⟨by omega, ?_⟩
        rw [if_neg (by omega)]
        rfl
  | succ m ih =>
    intro fuel fuel2 c V L W hP hB hK hR hm hc hf hf2
    obtain ⟨g, rfl⟩ : ∃ g, fuel = g + 1 := ⟨fuel - 1, by omega⟩
    obtain ⟨g2, rfl⟩ : ∃ g, fuel2 = g + 1 := ⟨fuel2 - 1, by omega⟩
    have hk : 3 * v + c < s := by omega
    have hx : q (3 * v + c) < 127 := by have := (hq _ hk).2; omega
    have hrd := reads3 (L := L) hP.1.2.1 hP.1.2.2.2 hc hx
    have hat : atN q s (3 * v + c) = q (3 * v + c) := if_pos hk
    by_cases hgo : kdN (q (3 * v + c)) < 5 ∧ c < 8
    · rw [if_pos hgo] at hrd
      have hP' : PC (up2 (up2 V 4 c (nI (kdN (q (3 * v + c))))) 1 7 (nI (c + 1))) s q 3 v (c + 1) := ⟨⟨hP.1.1, hP.1.2.1, hP.1.2.2.1, rfl⟩, hP.2⟩
      have hK' : KVd (up2 (up2 V 4 c (nI (kdN (q (3 * v + c))))) 1 7 (nI (c + 1))) q v (c + 1) := by
        intro j hj
        show upd (V 4) c (nI (kdN (q (3 * v + c)))) j = _ ∧ _
        by_cases e : j = c
        · rw [e, pk_us]
          exact ⟨rfl, hgo.1⟩
        · rw [pk_un e]
          exact hK j (by omega)
      have hR' : PR (up2 W 0 17 (nI (c + 1))) s q v (c + 1) := ⟨⟨hR.1.1, hR.1.2.1, hR.1.2.2.1, rfl⟩, hR.2⟩
      obtain ⟨r, V', W', i0, i1, i2, i3, i4, i5⟩ := ih g g2 (c + 1) _ L _ hP' hB hK' hR' (by omega) (by omega) (by omega) (by omega)
      refine ⟨r, V', W', i0, ?_, fun L2 => ?_, ((FP.up4 V c _).tr (FP.up1 _ _ (by decide))).tr i3, (FR.up W _ (Or.inr (Or.inr rfl))).tr i4, i5⟩
      · rw [ff_go hP.1.1 (hP.2 _ hk) hk hs hrd]
        exact i1
      · rw [child_step hR hs hq hc (by omega), hat, if_pos hgo]
        exact i2 L2
    · rw [if_neg hgo] at hrd
      refine ⟨3 * v + c, V, up2 W 0 15 (if 2 ≤ c ∧ 3 * v + c = s then 1 else 0), by omega, ff_no hP.1.1 (hP.2 _ hk) hk hs hrd, fun L2 => ?_, FP.rf V, FR.up W _ (Or.inl rfl), c, hP.1.2.2.2, hc, Or.inl ⟨by omega, ?_⟩⟩
      · rw [child_step hR hs hq hc (by omega), hat, if_neg hgo]
      · rw [if_neg (by omega)]
        rfl
theorem tens_loop (hs : s ≤ 20) (hq : ∀ i, i < s → 32 ≤ q i ∧ q i ≤ 126) :
    ∀ (m fuel fuel2 v : Nat) (V : Nat → Nat → Int32) (L : Nat → Int64) (W : Nat → Nat → Int32), PC V s q 0 v 0 → BV V q v → PR W s q v 0 → v + m = 3 → 0 < m → 3 * v ≤ s → s + 1 < fuel + 3 * v → m < fuel2 →
      ∃ r V' W', r ≤ 20 ∧ f_X2_firstFault_17 fuel V L (nI (3 * v)) = some (nI r, V', L) ∧ (∀ L2, f_X5_read_17 fuel2 W L2 (nI (3 * v)) = some (nI r, W', L2)) ∧ FP V V' ∧ FR W W' ∧ Dn s q r V' W' := by
  intro m
  induction m with
  | zero => intro fuel fuel2 v V L W _ _ _ _ h0; omega
  | succ m ih =>
    intro fuel fuel2 v V L W hP hB hR hm _ hv hf hf2
    obtain ⟨g, rfl⟩ : ∃ g, fuel = g + 1 := ⟨fuel - 1, by omega⟩
    obtain ⟨g2, rfl⟩ : ∃ g, fuel2 = g + 1 := ⟨fuel2 - 1, by omega⟩
    have hv3 : v < 3 := by omega
    by_cases hk : 3 * v = s
    · refine ⟨s, V, W, hs, ff_end hP.1.1 hk hs, fun L2 => ?_, FP.rf V, FR.rf W, 0, hP.1.2.2.2, by omega, Or.inl ⟨by omega, hR.1.2.1⟩⟩
      rw [read_step hR hs hq hv3 (by omega), if_neg (by unfold atN; rw [if_neg (by omega)]; omega), hk]
    have hk1 : 3 * v < s := by omega
    have hx0 : q (3 * v) < 127 := by have := (hq _ hk1).2; omega
    have ha0 : atN q s (3 * v) = q (3 * v) := if_pos hk1
    have hrd0 := reads0 (L := L) hP.1.2.1 hx0
    by_cases d0 : ¬ (48 ≤ q (3 * v) ∧ q (3 * v) ≤ 57)
    · rw [if_neg d0] at hrd0
      refine ⟨3 * v, V, W, by omega, ff_no hP.1.1 (hP.2 _ hk1) hk1 hs hrd0, fun L2 => ?_, FP.rf V, FR.rf W, 0, hP.1.2.2.2, by omega, Or.inl ⟨by omega, hR.1.2.1⟩⟩
      rw [read_step hR hs hq hv3 (by omega), ha0, if_neg d0]
    replace d0 := Classical.not_not.mp d0
    rw [if_pos d0] at hrd0
    have e0 := ff_go (g := g) hP.1.1 (hP.2 _ hk1) hk1 hs hrd0
    have hF1 : FP V (up2 (up2 V 1 3 (nI (q (3 * v) - 48))) 1 2 1) := (FP.up1 V _ (by decide)).tr (FP.up1 _ _ (by decide))
    have hV1 : (up2 (up2 V 1 3 (nI (q (3 * v) - 48))) 1 2 1) 1 1 = nI s ∧ (up2 (up2 V 1 3 (nI (q (3 * v) - 48))) 1 2 1) 1 2 = nI 1 ∧ (up2 (up2 V 1 3 (nI (q (3 * v) - 48))) 1 2 1) 1 3 = nI (q (3 * v) - 48) ∧ (up2 (up2 V 1 3 (nI (q (3 * v) - 48))) 1 2 1) 1 5 = nI v ∧ (up2 (up2 V 1 3 (nI (q (3 * v) - 48))) 1 2 1) 1 7 = nI 0 ∧ (∀ i, i < s → (up2 (up2 V 1 3 (nI (q (3 * v) - 48))) 1 2 1) 2 i = nI (q i)) ∧ (up2 (up2 V 1 3 (nI (q (3 * v) - 48))) 1 2 1) 3 = V 3 := ⟨hP.1.1, rfl, rfl, hP.1.2.2.1, hP.1.2.2.2, hP.2, rfl⟩
    generalize up2 (up2 V 1 3 (nI (q (3 * v) - 48))) 1 2 1 = V1 at e0 hF1 hV1
    obtain ⟨u1, u2, u3, u5, u7, ul, ub⟩ := hV1
    obtain ⟨g', rfl⟩ : ∃ g', g = g' + 1 := ⟨g - 1, by omega⟩
    by_cases hk2 : 3 * v + 1 = s
    · refine ⟨s, V1, W, hs, by rw [e0, ff_end u1 hk2 hs], fun L2 => ?_, hF1, FR.rf W, 0, u7, by omega, Or.inl ⟨by omega, hR.1.2.1⟩⟩
      rw [read_step hR hs hq hv3 (by omega), ha0, if_pos d0, if_neg (by rw [show atN q s (3 * v + 1) = 0 from if_neg (by omega)]; intro e; split at e <;> omega), hk2]
    have hk3 : 3 * v + 1 < s := by omega
    have hx1 : q (3 * v + 1) < 127 := by have := (hq _ hk3).2; omega
    have ha1 : atN q s (3 * v + 1) = q (3 * v + 1) := if_pos hk3
    have hrd1 := reads1 (L := L) u2 u3 (by omega) u5 hv3 hx1
    have hiff : ((if q (3 * v) = 48 then 49 else 48) ≤ q (3 * v + 1) ∧ q (3 * v + 1) ≤ 57) ↔ ((48 ≤ q (3 * v + 1) ∧ q (3 * v + 1) ≤ 57) ∧ 1 ≤ 10 * (q (3 * v) - 48) + (q (3 * v + 1) - 48)) := by
      split <;> omega
    by_cases d1 : ¬ ((48 ≤ q (3 * v + 1) ∧ q (3 * v + 1) ≤ 57) ∧ 1 ≤ 10 * (q (3 * v) - 48) + (q (3 * v + 1) - 48))
    · rw [if_neg d1] at hrd1
      refine ⟨3 * v + 1, V1, W, by omega, by rw [e0, ff_no u1 (ul _ hk3) hk3 hs hrd1], fun L2 => ?_, hF1, FR.rf W, 0, u7, by omega, Or.inl ⟨by omega, hR.1.2.1⟩⟩
      rw [read_step hR hs hq hv3 (by omega), ha0, if_pos d0, ha1, if_neg (fun e => d1 (hiff.mp e))]
    replace d1 := Classical.not_not.mp d1
    rw [if_pos d1] at hrd1
    have e1 := ff_go (g := g') u1 (ul _ hk3) hk3 hs hrd1
    have hF2 : FP V1 (up2 (up2 (up2 V1 3 v (nI (10 * (q (3 * v) - 48) + (q (3 * v + 1) - 48)))) 1 5 (nI (v + 1))) 1 2 2) := ((FP.up3 V1 _ _).tr (FP.up1 _ _ (by decide))).tr (FP.up1 _ _ (by decide))
    have hB2 : BV (up2 (up2 (up2 V1 3 v (nI (10 * (q (3 * v) - 48) + (q (3 * v + 1) - 48)))) 1 5 (nI (v + 1))) 1 2 2) q (v + 1) := by
      intro j hj
      show upd (V1 3) v (nI (10 * (q (3 * v) - 48) + (q (3 * v + 1) - 48))) j = _ ∧ _
      by_cases e : j = v
      · rw [e, pk_us]
        exact ⟨rfl, d0, d1.1, d1.2⟩
      · rw [pk_un e, ub]
        exact hB j (by omega)
    have hV2 : (up2 (up2 (up2 V1 3 v (nI (10 * (q (3 * v) - 48) + (q (3 * v + 1) - 48)))) 1 5 (nI (v + 1))) 1 2 2) 1 1 = nI s ∧ (up2 (up2 (up2 V1 3 v (nI (10 * (q (3 * v) - 48) + (q (3 * v + 1) - 48)))) 1 5 (nI (v + 1))) 1 2 2) 1 2 = nI 2 ∧ (up2 (up2 (up2 V1 3 v (nI (10 * (q (3 * v) - 48) + (q (3 * v + 1) - 48)))) 1 5 (nI (v + 1))) 1 2 2) 1 5 = nI (v + 1) ∧ (up2 (up2 (up2 V1 3 v (nI (10 * (q (3 * v) - 48) + (q (3 * v + 1) - 48)))) 1 5 (nI (v + 1))) 1 2 2) 1 7 = nI 0 ∧ (∀ i, i < s → (up2 (up2 (up2 V1 3 v (nI (10 * (q (3 * v) - 48) + (q (3 * v + 1) - 48)))) 1 5 (nI (v + 1))) 1 2 2) 2 i = nI (q i)) := ⟨u1, rfl, rfl, u7, ul⟩
    generalize up2 (up2 (up2 V1 3 v (nI (10 * (q (3 * v) - 48) + (q (3 * v + 1) - 48)))) 1 5 (nI (v + 1))) 1 2 2 = V2 at e1 hF2 hB2 hV2
    obtain ⟨w1, w2, w5, w7, wl⟩ := hV2
    obtain ⟨g'', rfl⟩ : ∃ g'', g' = g'' + 1 := ⟨g' - 1, by omega⟩
    have hR1 : PR (up2 W 0 16 (nI (v + 1))) s q (v + 1) 0 := ⟨⟨hR.1.1, hR.1.2.1, rfl, hR.1.2.2.2⟩, hR.2⟩
    have hFW : FR W (up2 W 0 16 (nI (v + 1))) := FR.up W _ (Or.inr (Or.inl rfl))
    have hd1' := hiff.mpr d1
    by_cases hk4 : 3 * v + 2 = s
    · refine ⟨s, V2, up2 W 0 16 (nI (v + 1)), hs, by rw [e0, e1, ff_end w1 hk4 hs], fun L2 => ?_, hF1.tr hF2, hFW, 0, w7, by omega, Or.inl ⟨by omega, hR1.1.2.1⟩⟩
      have ha2 : atN q s (3 * v + 2) = 0 := if_neg (by omega)
      rw [read_step hR hs hq hv3 (by omega), ha0, if_pos d0, ha1, if_pos hd1', ha2, if_neg (by decide), if_neg (show ¬ (0 : Nat) = 44 by decide), hk4]
      split <;> rfl
    have hk5 : 3 * v + 2 < s := by omega
    have hx2 : q (3 * v + 2) < 127 := by have := (hq _ hk5).2; omega
    have ha2 : atN q s (3 * v + 2) = q (3 * v + 2) := if_pos hk5
    have hrd2 := reads2 (L := L) w2 w5 (by omega) hx2
    by_cases c1 : q (3 * v + 2) = 44 ∧ v + 1 < 3
    · rw [if_pos c1] at hrd2
      have e2 := ff_go (g := g'') w1 (wl _ hk5) hk5 hs hrd2
      have hP3 : PC (up2 V2 1 2 0) s q 0 (v + 1) 0 := ⟨⟨w1, rfl, w5, w7⟩, wl⟩
      obtain ⟨r, V', W', i0, i1, i2, i3, i4, i5⟩ := ih g'' g2 (v + 1) (up2 V2 1 2 0) L (up2 W 0 16 (nI (v + 1))) hP3 hB2 hR1 (by omega) (by omega) (by omega) (by omega) (by omega)
      refine ⟨r, V', W', i0, ?_, fun L2 => ?_, (hF1.tr hF2).tr ((FP.up1 V2 _ (by decide)).tr i3), hFW.tr i4, i5⟩
      · rw [e0, e1, e2]
        exact i1
      · rw [read_step hR hs hq hv3 (by omega), ha0, if_pos d0, ha1, if_pos hd1', ha2, if_neg (by omega), if_neg (by omega), if_pos c1.1]
        exact i2 L2
    rw [if_neg c1] at hrd2
    by_cases c2 : q (3 * v + 2) = 59
    · rw [if_pos c2] at hrd2
      have e2 := ff_go (g := g'') w1 (wl _ hk5) hk5 hs hrd2
      have hP3 : PC (up2 V2 1 2 3) s q 3 (v + 1) 0 := ⟨⟨w1, rfl, w5, w7⟩, wl⟩
      obtain ⟨r, V', W', i0, i1, i2, i3, i4, i5⟩ := children_loop hs hq (show 1 ≤ v + 1 by omega) (by omega) (s - (3 * v + 3)) g'' 20000 0 (up2 V2 1 2 3) L (up2 W 0 16 (nI (v + 1))) hP3 hB2 (fun j hj => by omega) hR1 (by omega) (by omega) (by omega) (by omega)
      refine ⟨r, V', W', i0, ?_, fun L2 => ?_, (hF1.tr hF2).tr ((FP.up1 V2 _ (by decide)).tr i3), hFW.tr i4, i5⟩
      · rw [e0, e1, e2]
        exact i1
      · rw [read_step hR hs hq hv3 (by omega), ha0, if_pos d0, ha1, if_pos hd1', ha2, if_pos c2]
        exact i2 L2
    · rw [if_neg c2] at hrd2
      refine ⟨3 * v + 2, V2, up2 W 0 16 (nI (v + 1)), by omega, by rw [e0, e1, ff_no w1 (wl _ hk5) hk5 hs hrd2], fun L2 => ?_, hF1.tr hF2, hFW, 0, w7, by omega, Or.inl ⟨by omega, hR1.1.2.1⟩⟩
      rw [read_step hR hs hq hv3 (by omega), ha0, if_pos d0, ha1, if_pos hd1', ha2, if_neg c2]
      by_cases c3 : v + 1 = 3
      · rw [if_pos c3]
      · rw [if_neg c3, if_neg (by omega)]
end
section
variable {N s : Nat} {q : Nat → Nat} {ρ n : Nat} {K : Nat → Nat} {T B Y G : Nat} {st : Nat × Nat × Nat × Bool} {nv : Nat} {bt : Nat → Nat} {ct sn : Nat} {sf so : Nat → Nat} {V : Nat → Nat → Int32} {L : Nat → Int64} {V2 : Nat → Nat → Int32}
theorem fault_both (h : RelX N s q ρ n K T B Y G st nv bt ct sn sf so V L V2) : ∃ r V' W', r ≤ 20 ∧ f_X2_firstFault V L = some (nI r, V', L) ∧ (∀ L2, f_X5_read V2 L2 = some (nI r, W', L2)) ∧ FP V V' ∧ FR V2 W' ∧ Dn s q r V' W' := by
  obtain ⟨e1, e2, e3, e4⟩ := h.1
  have hP : PC (up2 (up2 (up2 V 1 2 0) 1 5 0) 1 7 0) s q 0 0 0 := ⟨⟨e1, rfl, rfl, rfl⟩, fun i hi => (e4 i hi).1⟩
  have hR : PR (up2 (up2 (up2 V2 0 15 0) 0 16 0) 0 17 0) s q 0 0 := ⟨⟨e2, rfl, rfl, rfl⟩, fun i hi => (e4 i hi).2.1⟩
  obtain ⟨r, V', W', i0, i1, i2, i3, i4, i5⟩ := tens_loop e3 (fun i hi => (e4 i hi).2.2) 3 20000 20000 0 _ L _ hP (fun j hj => by omega) hR (by omega) (by omega) (by omega) (by omega) (by omega)
  refine ⟨r, V', W', i0, ?_, fun L2 => ?_, (((FP.up1 V _ (by decide)).tr (FP.up1 _ _ (by decide))).tr (FP.up1 _ _ (by decide))).tr i3, (((FR.up V2 _ (Or.inl rfl)).tr (FR.up _ _ (Or.inr (Or.inl rfl)))).tr (FR.up _ _ (Or.inr (Or.inr rfl)))).tr i4, i5⟩
  · unfold f_X2_firstFault
    rw [bnd_e, bnd_e, bnd_e, ← nI_0]
    rw [← nI_0] at i1
    exact i1
  · unfold f_X5_read
    rw [bnd_e, bnd_e, bnd_e, ← nI_0]
    have i2' := i2 L2
    rw [← nI_0] at i2'
    exact i2'
end
theorem sim_fault : Sim_fault Rel := by
  rintro N V L V2 L2 hN ⟨s, q, ρ, n, K, T, B, Y, G, st, nv, bt, ct, sn, sf, so, h⟩
  obtain ⟨r, V', W', i0, i1, i2, i3, i4, i5⟩ := fault_both h
  refine ⟨nI r, V', L, W', L2, ?_, ?_, (h.fr i3.fc i4.rF (h.2.2.2.2.2.2.2.2.same (i3.2 17 (by decide) (by decide) (by decide)) (i3.2 18 (by decide) (by decide) (by decide)) rfl rfl)).up L2⟩
  · unfold f_X4_fault
    rw [i1]
    rfl
  · unfold f_X5_fault
    rw [i2 L2]
    rfl
