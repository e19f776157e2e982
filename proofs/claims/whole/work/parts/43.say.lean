theorem sim_say : Sim_say Rel := by
  rintro N V L V2 L2 x1 hN ⟨s, q, ρ, n, K, T, B, Y, G, st, nv, bt, ct, sn, sf, so, h⟩
  obtain ⟨h1, h2, h3, h4, h5, h6, h7, h8, h9⟩ := h.mono
  have hn := h7.le
  have h4' := h4
  obtain ⟨e1, e2, e3, e4⟩ := h4'
  unfold f_X4_say f_X5_say
  rw [hasVerse_eq e1 e3, isVerse_eq e2 (by omega)]
  by_cases hx : ib x1 nv = true
  · rw [hx, if_neg (show ¬ bz true = 0 by decide), if_neg (show ¬ bz true = 0 by decide)]
    obtain ⟨i, hi, rfl⟩ := ib_of hx (by omega)
    have hn0 : 0 < n := by
      rcases h7 with ⟨-, -, h0, -⟩ | ⟨h0, -⟩ <;> omega
    obtain ⟨a1, a2, a3⟩ := h7.ok hn0
    obtain ⟨c0, b0, b9, b10⟩ := h3
    have hsd : setD V2 st = V2 := setD_self b0
    have hcc := canCount_eq c0.2.2.1 c0.2.2.2.2.2.1 (show n ≤ 9 by omega) a2.1
    have hic := isCount_eq (L := L2) (st := st) b9 (by omega) a2 b10
    rw [hsd] at hic
    rw [hcc, hic]
    cases hc : canB st.1 B with
    | false => exact ⟨_, V, L, V2, L2, rfl, rfl, h.up L2⟩
    | true =>
      obtain ⟨t1, t2, t3⟩ := h5
      rw [if_neg (show ¬ bz true = 0 by decide), t1]
      simp only [bd1]
      rw [if_neg (show ¬ bz true = 0 by decide), t2]
      by_cases hct : ct = 999
      · subst hct
        exact ⟨_, V, L, V2, L2, if_neg (by decide), if_pos rfl, h.up L2⟩
      · rw [if_pos (show nI ct < (999 : Int32) from nI_lt (b := 999) (by omega) (by decide)), if_neg (show ¬ nI ct = (999 : Int32) from fun e => hct ((nI_eq (b := 999) (by omega) (by decide)).mp e)), nI_1]
        simp only [bnd]
        rw [if_pos (ib_nI (by omega) (by decide)), if_pos (ib_nI (by omega) (by decide)), nI_clamp (by omega), show up2 V 5 3 (nI (ct + 1)) 7 i = nI (bt i) from (e4 i hi).1, show up2 V2 0 9 (nI (ct + 1)) 3 i = nI (bt i) from (e4 i hi).2.1, show up2 V 5 3 (nI (ct + 1)) 6 = V 6 from rfl]
        obtain ⟨c2, p1, p2⟩ := putOut_eq c0 (by omega) a2 (e4 i hi).2.2.1 (e4 i hi).2.2.2 hc
        have hsd2 : setD (up2 V2 0 9 (nI (ct + 1))) st = up2 V2 0 9 (nI (ct + 1)) := setD_self b0
        have hM2 : Mb (up2 V2 0 9 (nI (ct + 1))) n K := b9
        have hg := goCount_eq (L := L2) hM2 (by omega) a2 b10 (e4 i hi).2.2.1 (e4 i hi).2.2.2 hc
        rw [hsd2] at hg
        rw [p1, hg]
        refine ⟨_, _, L, _, L2, rfl, rfl, s, q, ρ, n, K, T, B, Y, G, (cnt n T B Y G st (bt i)).2, nv, bt, ct + 1, sn, sf, so, h1, h2, ⟨p2, ⟨rfl, rfl, rfl, rfl⟩, b9, b10⟩, h4, ⟨rfl, rfl, by omega⟩, h6, Or.inr ⟨a1, hn, (cnt_ok a2).2, a3⟩, h8, h9⟩
  · have hx0 : ib x1 nv = false := by simpa using hx
    rw [hx0]
    exact ⟨_, V, L, V2, L2, if_pos rfl, if_pos rfl, h.up L2⟩
theorem sim_see : Sim_see Rel := by
  rintro N V L V2 L2 x1 x2 hN ⟨s, q, ρ, n, K, T, B, Y, G, st, nv, bt, ct, sn, sf, so, h⟩
  obtain ⟨h1, h2, h3, h4, h5, h6, h7, h8, h9⟩ := h.mono
  have hn := h7.le
  unfold f_X4_see f_X5_see
  rw [hasChild_eq h3.1.1 (by omega), isChild_eq h3.2.2.1.1 (by omega), hasChild_eq h3.1.1 (by omega), isChild_eq h3.2.2.1.1 (by omega)]
  by_cases hx : ib x1 n = true
  · rw [hx, if_neg (show ¬ bz true = 0 by decide), if_neg (show ¬ bz true = 0 by decide)]
    by_cases hx2 : ib x2 n = true
    · rw [hx2, if_neg (show ¬ bz true = 0 by decide), if_neg (show ¬ bz true = 0 by decide)]
      obtain ⟨i, hi, rfl⟩ := ib_of hx (by omega)
      obtain ⟨j, hj, rfl⟩ := ib_of hx2 (by omega)
      obtain ⟨a1, a2, a3⟩ := h7.ok (by omega)
      obtain ⟨e1, e2, e3, e4⟩ := h6
      unfold f_X3_keepSeen
      rw [e1, e2, if_neg (nI_pos (by omega))]
      by_cases h6' : sn = 6
      · subst h6'
        exact ⟨_, V, L, V2, L2, by rw [if_neg (by decide)]; rfl, if_pos (by decide), h.up L2⟩
      · have hs6 : sn < 6 := by omega
        refine ⟨nI (sn + 1), up2 (up2 (up2 V 8 sn (nI i)) 9 sn (nI j)) 5 6 (nI (sn + 1)), L, up2 (up2 (up2 V2 11 sn (nI i)) 12 sn (nI j)) 0 10 (nI (sn + 1)), L2, ?_, ?_, s, q, ρ, n, K, T, B, Y, G, st, nv, bt, ct, sn + 1, fun k => if k = sn then i else sf k, fun k => if k = sn then j else so k, h1, h2, h3, h4, h5, ⟨rfl, rfl, by omega, fun k hk => ?_⟩, Or.inr ⟨a1, hn, a2, a3⟩, h8, h9⟩
        · rw [if_pos (show nI sn < (6 : Int32) from nI_lt (b := 6) hs6 (by decide)), if_pos (ib_nI hs6 (by decide)), nI_clamp (by omega)]
          simp only [bnd]
          rw [show up2 V 8 sn (nI i) 5 6 = nI sn from e1, if_pos (ib_nI hs6 (by decide)), nI_clamp (by omega), show up2 (up2 V 8 sn (nI i)) 9 sn (nI j) 5 6 = nI sn from e1, nI_1]
          rfl
        · rw [if_neg (show ¬ nI sn = (6 : Int32) from fun e => h6' ((nI_eq (b := 6) (by omega) (by decide)).mp e)), if_pos (ib_nI hs6 (by decide)), nI_clamp (by omega)]
          simp only [bnd]
          rw [show up2 V2 11 sn (nI i) 0 10 = nI sn from e2, if_pos (ib_nI hs6 (by decide)), nI_clamp (by omega), show up2 (up2 V2 11 sn (nI i)) 12 sn (nI j) 0 10 = nI sn from e2, nI_1]
          rfl
        · show (upd (V 8) sn (nI i) k = nI (if k = sn then i else sf k) ∧ upd (V2 11) sn (nI i) k = nI (if k = sn then i else sf k) ∧ (if k = sn then i else sf k) < n) ∧ (upd (V 9) sn (nI j) k = nI (if k = sn then j else so k) ∧ upd (V2 12) sn (nI j) k = nI (if k = sn then j else so k) ∧ (if k = sn then j else so k) < n)
          by_cases e : k = sn
          · rw [e, pk_us, pk_us, pk_us, pk_us, if_pos rfl, if_pos rfl]
            exact ⟨⟨rfl, rfl, hi⟩, ⟨rfl, rfl, hj⟩⟩
          · rw [pk_un e, pk_un e, pk_un e, pk_un e, if_neg e, if_neg e]
            exact e4 k (by omega)
    · have hx0 : ib x2 n = false := by simpa using hx2
      rw [hx0]
      exact ⟨_, V, L, V2, L2, if_pos rfl, if_pos rfl, h.up L2⟩
  · have hx0 : ib x1 n = false := by simpa using hx
    rw [hx0]
    exact ⟨_, V, L, V2, L2, if_pos rfl, if_pos rfl, h.up L2⟩
theorem tog_T {n : Nat} {K : Nat → Nat} {T B Y G : Nat} (h : KB n K T B Y G) (I : Nat) : I &&& T = dif I B &&& T := by
  refine Nat.eq_of_testBit_eq (fun k => ?_)
  rw [Nat.testBit_and, Nat.testBit_and, dif_bit]
  by_cases hk : k < n
  · obtain ⟨-, kT, kB, -⟩ := h.2.2.2.2 k hk
    rw [kT, kB]
    by_cases e : K k = 1
    · simp [e]
    · simp [e]
  · rw [bit_out h.1 (by omega)]
    simp
theorem howMany_eq {N s : Nat} {q : Nat → Nat} {ρ n : Nat} {K : Nat → Nat} {T B Y G : Nat} {st : Nat × Nat × Nat × Bool} {nv : Nat} {bt : Nat → Nat} {ct sn : Nat} {sf so : Nat → Nat} {V : Nat → Nat → Int32} {L : Nat → Int64} {V2 : Nat → Nat → Int32} {L2 : Nat → Int64} (h : RelX N s q ρ n K T B Y G st nv bt ct sn sf so V L V2) (x : Int32) : f_X5_howMany V2 L2 x = some (f_X4_count V L x) := by
  obtain ⟨h1, h2, h3, h4, h5, h6, h7, h8, h9⟩ := h
  have hn := h7.le
  obtain ⟨hI, hS⟩ := h7.IS
  obtain ⟨⟨g0, g1, g2, g3, g4, g5, g6, g7, g8⟩, b0, b9, b10⟩ := h3
  have hI9 : st.1 < 512 := lt_pow (by omega) hI
  have hS9 : st.2.1 < 512 := lt_pow (by omega) hS
  unfold f_X5_howMany f_X4_count
  by_cases e0 : x = 0
  · rw [if_pos e0, if_pos e0, b9.1, g0]
  rw [if_neg e0, if_neg e0]
  by_cases e1 : x = 1
  · rw [if_pos e1, if_pos e1, b0.1, size_eq hI9]
    unfold f_X0_howManyIn
    rw [g5, bitCount_pop _ hI9]
    rfl
  rw [if_neg e1, if_neg e1]
  by_cases e2 : x = 2
  · rw [if_pos e2, if_pos e2, h4.1, h4.2.1]
  rw [if_neg e2, if_neg e2]
  by_cases e3 : x = 3
  · rw [if_pos e3, if_pos e3, b0.2.1, size_eq hS9, g6, bitCount_pop _ hS9]
    rfl
  rw [if_neg e3, if_neg e3]
  by_cases e4 : x = 4
  · rw [if_pos e4, if_pos e4, b0.2.2.1, g7]
  rw [if_neg e4, if_neg e4]
  by_cases e5 : x = 5
  · rw [if_pos e5, if_pos e5, b0.2.2.2, g8]
    cases st.2.2.2 <;> rfl
  rw [if_neg e5, if_neg e5]
  by_cases e6 : x = 6
  · rw [if_pos e6, if_pos e6, h5.1, h5.2.1]
  rw [if_neg e6, if_neg e6]
  by_cases e7 : x = 7
  · rw [if_pos e7, if_pos e7]
    have hd9 := lt_pow (show n ≤ 9 by omega) (dif_lt (b := B) hI)
    have ha9 := lt_pow (show n ≤ 9 by omega) (and_lt (b := T) (dif_lt (b := B) hI))
    unfold f_X0_takenTogether
    rw [g5, g2, g1, nI_dif, nx_and, tog_T b10, bitCount_pop _ hd9, bitCount_pop _ ha9, nI_add]
    rcases h7 with ⟨z1, z2, -⟩ | ⟨a1, a2, a3, a4⟩
    · subst z1
      have hB0 : B = 0 := Nat.lt_one_iff.mp b10.2.1
      have hT0 : T = 0 := Nat.lt_one_iff.mp b10.1
      rw [z2, hB0, hT0]
      unfold f_X5_beatsIn
      rw [f_X5_beatsIn_4, b9.1, if_pos (by decide)]
      rfl
    · have hb := beatsIn_eq (L := L2) (st := st) b9 (by omega) a3 b10
      rw [setD_self b0] at hb
      rw [hb]
      rfl
  rw [if_neg e7, if_neg e7]
  by_cases e8 : x = 8
  · rw [if_pos e8, if_pos e8, h6.1, h6.2.1]
  rw [if_neg e8, if_neg e8]
  by_cases e9 : x = 9
  · rw [if_pos e9, if_pos e9, h1.1, h1.2.1]
  rw [if_neg e9, if_neg e9]
  by_cases e10 : x = 10
  · rw [if_pos e10, if_pos e10, h2.1, h2.2.1]
  rw [if_neg e10, if_neg e10]
theorem sim_count : Sim_count Rel := by
  rintro N V L V2 L2 x1 hN ⟨s, q, ρ, n, K, T, B, Y, G, st, nv, bt, ct, sn, sf, so, h⟩
  refine ⟨f_X4_count V L x1, V, L, V2, L2, ⟨rfl, rfl, rfl⟩, ⟨?_, rfl, rfl⟩, h.up L2⟩
  unfold f_X5_count
  rw [howMany_eq h]
  rfl
