theorem go_walk {V : Nat → Nat → Int32} {L : Nat → Int64} {n : Nat} {K : Nat → Nat} {T B Y G : Nat} {st : Nat × Nat × Nat × Bool} {r : Nat} (hM : Mb V n K) (hn : n ≤ 9) (hs : Sok n st) (hB : KB n K T B Y G) (hd : dif st.1 B ≠ 0) (hr : r < fb_sm (wgt st.1 T B) n) :
    ∀ (m t fuel : Nat), n ≤ t + m → m < fuel → st.1.testBit (it st.2.2.2 n t st.2.2.1) = true → cum (wgt st.1 T B) st.2.2.2 n st.2.2.1 t ≤ r →
      ∃ i, i < n ∧ At (wgt st.1 T B) st.2.2.2 n st.2.2.1 r i ∧ f_X5_goCount_54 (setD V st) L fuel (nI (r + 1) - nI (cum (wgt st.1 T B) st.2.2.2 n st.2.2.1 (t + 1))) (nI (it st.2.2.2 n t st.2.2.1)) = f_X5_goCount_92 20000 (setD V st) L (nI i) := by
  have hcum : ∀ t, t ≤ n → cum (wgt st.1 T B) st.2.2.2 n st.2.2.1 t ≤ 18 := by
    intro t ht
    have h1 := cum_mono (wgt st.1 T B) st.2.2.2 n st.2.2.1 ht
    have h2 : cum (wgt st.1 T B) st.2.2.2 n st.2.2.1 n = fb_sm (wgt st.1 T B) n := sm_turn _ hs.2.2
    have h3 := tog_sm (T := T) (B := B) hn hs.1
    have h4 := tog_le st.1 T B
    omega
  have hr18 : r < 18 := by
    have h3 := tog_sm (T := T) (B := B) hn hs.1
    have h4 := tog_le st.1 T B
    omega
  obtain ⟨j, hj, hpj⟩ := ne0_bit9 (dif_lt (b := B) hs.1) hd
  have hpj2 : st.1.testBit j = true := by
    rw [dif_bit, Bool.and_eq_true] at hpj
    exact hpj.1
  intro m
  induction m with
  | zero =>
    intro t fuel ht _ _ hc
    have h1 := cum_mono (wgt st.1 T B) st.2.2.2 n st.2.2.1 (show n ≤ t by omega)
    have h2 : cum (wgt st.1 T B) st.2.2.2 n st.2.2.1 n = fb_sm (wgt st.1 T B) n := sm_turn _ hs.2.2
    omega
  | succ m ih =>
    intro t fuel ht hf hin hc
    obtain ⟨g, rfl⟩ : ∃ g, fuel = g + 1 := ⟨fuel - 1, by omega⟩
    have htn : t < n := by
      rcases Nat.lt_or_ge t n with q | q
      · exact q
      · have h1 := cum_mono (wgt st.1 T B) st.2.2.2 n st.2.2.1 q
        have h2 : cum (wgt st.1 T B) st.2.2.2 n st.2.2.1 n = fb_sm (wgt st.1 T B) n := sm_turn _ hs.2.2
        omega
    have hi := it_lt (o := st.2.2.2) t st.2.2.1 hs.2.2
    have hct1 := hcum (t + 1) htn
    have hcs := cum_succ (wgt st.1 T B) st.2.2.2 n st.2.2.1 t
    rw [f_X5_goCount_54]
    by_cases hgo : cum (wgt st.1 T B) st.2.2.2 n st.2.2.1 (t + 1) ≤ r
    · rw [if_pos (by rw [sub_gt (by omega) (by omega)]; omega)]
      unfold f_X5_goCount_70
      rw [nextFrom_in hM hn hs (fun i hi => (hB.2.2.2.2 i hi).1) hi hj hpj2]
      obtain ⟨d, g1, g2, g3, g4⟩ := nx_way (p := fun k => st.1.testBit k) (o := st.2.2.2) (wgt st.1 T B) (fun k _ h => wgt_out h) n (it st.2.2.2 n t st.2.2.1) hi (ht_any hi hj hpj2)
      have hcw := cum_way (w := wgt st.1 T B) (o := st.2.2.2) (n := n) (f := st.2.2.1) (t := t) g1 g4
      have hin2 : st.1.testBit (it st.2.2.2 n (t + d) st.2.2.1) = true := by
        rw [it_add, ← g3]
        exact nx_hit (p := fun k => st.1.testBit k) n _ (ht_any hi hj hpj2)
      have hi2 : it st.2.2.2 n (t + d) st.2.2.1 < n := it_lt _ _ hs.2.2
      rw [g3, ← it_add]
      show ∃ i, i < n ∧ _ ∧ (if ib (nI (it st.2.2.2 n (t + d) st.2.2.1)) 9 = true then f_X5_goCount_54 (setD V st) L g (nI (r + 1) - nI (cum (wgt st.1 T B) st.2.2.2 n st.2.2.1 (t + 1)) - f_X5_takes (setD V st 4 (nI (it st.2.2.2 n (t + d) st.2.2.1)).toNatClampNeg)) (nI (it st.2.2.2 n (t + d) st.2.2.1)) else none) = _
      rw [if_pos (ib_nI (by omega) (by decide)), nI_clamp (by omega), show setD V st 4 (it st.2.2.2 n (t + d) st.2.2.1) = nI (K (it st.2.2.2 n (t + d) st.2.2.1)) from hM.2 _ hi2, takes_eq (hB.2.2.2.2 _ hi2).1, hB.tak hi2, ← wgt_in hin2, sub_sub_nI, ← hcw, ← cum_succ]
      exact ih (t + d) g (by omega) (by omega) hin2 (by rw [hcw]; exact hgo)
    · have hw0 : wgt st.1 T B (it st.2.2.2 n t st.2.2.1) ≠ 0 := by omega
      rw [if_neg (by rw [sub_gt (by omega) (by omega)]; omega), if_pos (ib_nI (by omega) (by decide)), nI_clamp (by omega), show setD V st 4 (it st.2.2.2 n t st.2.2.1) = nI (K (it st.2.2.2 n t st.2.2.1)) from hM.2 _ hi, takes_eq (hB.2.2.2.2 _ hi).1, hB.tak hi, ← wgt_in hin, if_neg (nI_ne0 (by omega) (by have := wgt_le st.1 T B (it st.2.2.2 n t st.2.2.1); omega))]
      exact ⟨_, hi, ⟨t, rfl, hc, by omega⟩, rfl⟩
theorem two_in : ∀ I, I < 512 → ∀ i, i < 9 → 2 ≤ pop I → dif I (2 ^ i) ≠ 0 := by decide +kernel
theorem go_slip {V : Nat → Nat → Int32} {L : Nat → Int64} {n : Nat} {K : Nat → Nat} {T B Y G I f : Nat} (hM : Mb V n K) (hn : n ≤ 9) (hI : I < 2 ^ n) (hf : f < n) (hB : KB n K T B Y G) (hd : dif I B ≠ 0) :
    ∀ (m q fuel i S : Nat) (o : Bool), m ≤ q → m < fuel → i < n → S < 2 ^ n → fb_ct (fun k => !S.testBit k) n ≤ m →
      f_X5_goCount_92 fuel (setD V (I, S, f, o)) L (nI i) = f_X5_goCount_174 (setD V (I, (sl (dif I B) Y G n q i S o).2.1, f, (sl (dif I B) Y G n q i S o).2.2)) L (nI (sl (dif I B) Y G n q i S o).1) := by
  obtain ⟨j, hj, hpj⟩ := ne0_bit9 (dif_lt (b := B) hI) hd
  intro m
  induction m with
  | zero =>
    intro q fuel i S o hq hfu hi hS hc
    obtain ⟨g, rfl⟩ : ∃ g, fuel = g + 1 := ⟨fuel - 1, by omega⟩
    have hs : S.testBit i = true := by
      have h0 := fb_ct_zero.mp (Nat.le_zero.mp hc) i hi
      simpa using h0
    have hsl : slc (dif I B) Y i S = false := by unfold slc; rw [hs]; simp
    have hS9 : S < 512 := lt_pow hn hS
    have e : sl (dif I B) Y G n q i S o = (i, S, o) := by
      cases q with
      | zero => rfl
      | succ q => rw [sl, hsl]; rfl
    rw [e, f_X5_goCount_92, isSly_eq hM hn hB hi]
    show (if bz (Y.testBit i) = 0 then f_X5_goCount_174 (setD V (I, S, f, o)) L (nI i) else if f_X5_isIn (nI S) (nI i) = 0 then _ else f_X5_goCount_174 (setD V (I, S, f, o)) L (nI i)) = _
    rw [isIn_eq (by omega) (by omega), hs]
    cases Y.testBit i
    · rw [if_pos (by rfl)]
    · rw [if_neg (by decide), if_neg (by decide)]
  | succ m ih =>
    intro q fuel i S o hq hfu hi hS hc
    obtain ⟨g, rfl⟩ : ∃ g, fuel = g + 1 := ⟨fuel - 1, by omega⟩
    obtain ⟨q2, rfl⟩ : ∃ g, q = g + 1 := ⟨q - 1, by omega⟩
    have hS9 : S < 512 := lt_pow hn hS
    have hsok : Sok n (I, S, f, o) := ⟨hI, hS, hf⟩
    rw [f_X5_goCount_92, isSly_eq hM hn hB hi, sl]
    show (if bz (Y.testBit i) = 0 then f_X5_goCount_174 (setD V (I, S, f, o)) L (nI i) else if f_X5_isIn (nI S) (nI i) = 0 then (bd1 (f_X5_isOther (setD V (I, S, f, o)) L (nI i)) fun r_2 => if r_2 = 0 then f_X5_goCount_174 (setD V (I, S, f, o)) L (nI i) else bnd (up2 (setD V (I, S, f, o)) 0 6 (nI S ||| ishl (1 : Int32) (nI i))) fun V_3 => if ib (nI i) 9 = true then (if V_3 4 (nI i).toNatClampNeg = (4 : Int32) then (if V_3 0 8 = 0 then (bnd (up2 V_3 0 8 (1 : Int32)) fun V_6 => f_X5_goCount_164 (f_X5_goCount_92 g) V_6 L (nI i)) else (bnd (up2 V_3 0 8 (0 : Int32)) fun V_5 => f_X5_goCount_164 (f_X5_goCount_92 g) V_5 L (nI i))) else (if isz (V_3 0 8) = true then bnd (up2 V_3 0 8 (V_3 0 8)) fun V_4 => f_X5_goCount_164 (f_X5_goCount_92 g) V_4 L (nI i) else none)) else none) else f_X5_goCount_174 (setD V (I, S, f, o)) L (nI i)) = _
    rw [isIn_eq (by omega) (by omega), isOther_eq hM hn hsok hB hi]
    by_cases hy : Y.testBit i = true
    · rw [if_neg (by rw [hy]; decide)]
      by_cases hs : S.testBit i = true
      · rw [if_neg (by rw [hs]; decide), if_neg (by unfold slc; rw [hs]; simp)]
      · have hs0 : S.testBit i = false := by simpa using hs
        rw [if_pos (by rw [hs0]; rfl)]
        show (if bz (decide (dif (dif I B) (2 ^ i) ≠ 0)) = 0 then _ else _) = _
        by_cases hot : dif (dif I B) (2 ^ i) ≠ 0
        · rw [if_neg (by rw [decide_eq_true hot]; decide), if_pos (by unfold slc; rw [hy, hs0, decide_eq_true hot]; rfl), ishl_one i (by omega), fa_or, setD_6]
          have hct : fb_ct (fun k => !(S ||| 2 ^ i).testBit k) n ≤ m := by
            have h1 : fb_ct (fun k => if k = i then false else !S.testBit k) n + (if (!S.testBit i) = true then 1 else 0) = fb_ct (fun k => !S.testBit k) n + (if false = true then 1 else 0) := fb_ct_upd (fun k => !S.testBit k) false hi
            have h2 : fb_ct (fun k => !(S ||| 2 ^ i).testBit k) n = fb_ct (fun k => if k = i then false else !S.testBit k) n := fb_ct_cong (fun k _ => by
              rw [Nat.testBit_or, pow_bit]
              by_cases e : k = i
              · simp [e]
              · simp [e])
            rw [h2]
            rw [hs0, if_pos (by rfl), if_neg (by decide)] at h1
            omega
          have hgo : ∀ o2 : Bool, o2 = fo G i o → f_X5_goCount_164 (f_X5_goCount_92 g) (setD V (I, S ||| 2 ^ i, f, o2)) L (nI i) = f_X5_goCount_174 (setD V (I, (sl (dif I B) Y G n q2 (nx (fun k => (dif I B).testBit k) (fo G i o) n n i) (S ||| 2 ^ i) (fo G i o)).2.1, f, (sl (dif I B) Y G n q2 (nx (fun k => (dif I B).testBit k) (fo G i o) n n i) (S ||| 2 ^ i) (fo G i o)).2.2)) L (nI (sl (dif I B) Y G n q2 (nx (fun k => (dif I B).testBit k) (fo G i o) n n i) (S ||| 2 ^ i) (fo G i o)).1) := by
            intro o2 e
            subst e
            unfold f_X5_goCount_164
            rw [nextFrom_tk (st := (I, S ||| 2 ^ i, f, fo G i o)) hM hn ⟨hI, or_lt hS (pow_lt hi), hf⟩ hB hi hj hpj]
            exact ih q2 g _ _ _ (by omega) (by omega) (nx_lt _ _ hi) (or_lt hS (pow_lt hi)) hct
          show (if ib (nI i) 9 = true then (if setD V (I, S ||| 2 ^ i, f, o) 4 (nI i).toNatClampNeg = (4 : Int32) then (if bz o = 0 then f_X5_goCount_164 (f_X5_goCount_92 g) (up2 (setD V (I, S ||| 2 ^ i, f, o)) 0 8 (1 : Int32)) L (nI i) else f_X5_goCount_164 (f_X5_goCount_92 g) (up2 (setD V (I, S ||| 2 ^ i, f, o)) 0 8 (0 : Int32)) L (nI i)) else (if isz (bz o) = true then f_X5_goCount_164 (f_X5_goCount_92 g) (up2 (setD V (I, S ||| 2 ^ i, f, o)) 0 8 (bz o)) L (nI i) else none)) else none) = _
          have hk4 := (hB.2.2.2.2 i hi).1
          have hkG := (hB.2.2.2.2 i hi).2.2.2.2
          rw [if_pos (ib_nI (by omega) (by decide)), nI_clamp (by omega), show setD V (I, S ||| 2 ^ i, f, o) 4 i = nI (K i) from hM.2 i hi, if_pos (bz_isz o), setD_8]
          by_cases hk : K i = 4
          · have hGi : G.testBit i = true := by rw [hkG, hk]; rfl
            rw [if_pos (by rw [hk]; decide)]
            cases o with
            | false =>
              rw [if_pos (by rfl)]
              have := hgo true (by simp [fo, hGi])
              rw [← setD_8 V I (S ||| 2 ^ i) f false true] at this
              exact this
            | true =>
              rw [if_neg (by decide)]
              have := hgo false (by simp [fo, hGi])
              rw [← setD_8 V I (S ||| 2 ^ i) f true false] at this
              exact this
          · have hGi : G.testBit i = false := by rw [hkG]; simp [hk]
            rw [if_neg (by rw [show (4 : Int32) = nI 4 from by decide, nI_eq (by omega) (by decide)]; exact hk)]
            exact hgo o (by simp [fo, hGi])
        · rw [if_pos (by rw [decide_eq_false hot]; rfl), if_neg (by unfold slc; rw [decide_eq_false hot]; simp)]
    · have hy0 : Y.testBit i = false := by simpa using hy
      rw [if_pos (by rw [hy0]; rfl), if_neg (by unfold slc; rw [hy0]; simp)]
theorem goCount_eq {V : Nat → Nat → Int32} {L : Nat → Int64} {n : Nat} {K : Nat → Nat} {T B Y G : Nat} {st : Nat × Nat × Nat × Bool} (hM : Mb V n K) (hn : n ≤ 9) (hs : Sok n st) (hB : KB n K T B Y G) {beats : Nat} (hb : 1 ≤ beats) (hb2 : beats ≤ 99) (hc : canB st.1 B = true) :
    f_X5_goCount (setD V st) L (nI beats) = some (nI (cnt n T B Y G st beats).1, setD V (cnt n T B Y G st beats).2, L) := by
  obtain ⟨I, S, f, o⟩ := st
  obtain ⟨hI, hS, hf⟩ := id hs
  have hI' : I < 2 ^ n := hI
  have hS' : S < 2 ^ n := hS
  have hf' : f < n := hf
  obtain ⟨hd0, hp0⟩ := (Bool.and_eq_true _ _).mp hc
  have hd : dif I B ≠ 0 := of_decide_eq_true hd0
  have hp : 2 ≤ pop I := of_decide_eq_true hp0
  have hI9 : I < 512 := lt_pow hn hI'
  have htp : 0 < tog I T B := by rw [tog_pos hn hI']; exact hd
  have ht18 := tog_le I T B
  have hr : (beats - 1) % tog I T B < fb_sm (wgt I T B) n := by rw [← tog_sm hn hI']; exact Nat.mod_lt _ htp
  have hr18 : (beats - 1) % tog I T B < 18 := Nat.lt_of_lt_of_le (Nat.mod_lt _ htp) ht18
  obtain ⟨j, hj, hpj⟩ := ne0_bit9 (dif_lt (b := B) hI') hd
  have hpj2 : I.testBit j = true := by
    rw [dif_bit, Bool.and_eq_true] at hpj
    exact hpj.1
  -- behind the walk
  have fin : ∀ t : Nat, I.testBit (it o n t f) = true → cum (wgt I T B) o n f t ≤ (beats - 1) % tog I T B → t ≤ n → f_X5_goCount_54 (setD V (I, S, f, o)) L 20000 (nI ((beats - 1) % tog I T B + 1) - nI (cum (wgt I T B) o n f (t + 1))) (nI (it o n t f)) = some (nI (cnt n T B Y G (I, S, f, o) beats).1, setD V (cnt n T B Y G (I, S, f, o) beats).2, L) := by
    intro t hin hcu htn
    obtain ⟨i, hi, hat, e⟩ := go_walk (L := L) (st := (I, S, f, o)) hM hn hs hB hd hr n t 20000 (by omega) (by omega) hin hcu
    have hat2 : At (wgt I T B) o n f ((beats - 1) % tog I T B) (fallS n T B I f o beats) := fallS_at hn hI' hf' hd
    have hif : i = fallS n T B I f o beats := hat.one hat2
    refine (show f_X5_goCount_54 (setD V (I, S, f, o)) L 20000 _ _ = _ from e).trans ?_
    rw [hif] at hi ⊢
    rw [go_slip hM hn hI' hf' hB hd n n 20000 _ S o (Nat.le_refl _) (by omega) hi hS' (fb_ct_le _ _)]
    have hw := sl_lt (a := dif I B) (Y := Y) (G := G) n _ S o hi hS'
    unfold cnt
    show f_X5_goCount_174 (setD V (I, (sl (dif I B) Y G n n (fallS n T B I f o beats) S o).2.1, f, (sl (dif I B) Y G n n (fallS n T B I f o beats) S o).2.2)) L (nI (sl (dif I B) Y G n n (fallS n T B I f o beats) S o).1) = some (nI (sl (dif I B) Y G n n (fallS n T B I f o beats) S o).1, setD V (dif I (2 ^ (sl (dif I B) Y G n n (fallS n T B I f o beats) S o).1), (sl (dif I B) Y G n n (fallS n T B I f o beats) S o).2.1, nx (fun k => (dif I (2 ^ (sl (dif I B) Y G n n (fallS n T B I f o beats) S o).1)).testBit k) (sl (dif I B) Y G n n (fallS n T B I f o beats) S o).2.2 n n (sl (dif I B) Y G n n (fallS n T B I f o beats) S o).1, (sl (dif I B) Y G n n (fallS n T B I f o beats) S o).2.2), L)
    generalize sl (dif I B) Y G n n (fallS n T B I f o beats) S o = w at hw
    obtain ⟨w1, w2, w3⟩ := w
    have hw1 : w1 < n := hw.1
    have hdn : dif I (2 ^ w1) ≠ 0 := two_in I hI9 w1 (by omega) hp
    obtain ⟨j2, hj2, hpj3⟩ := ne0_bit9 (dif_lt (b := 2 ^ w1) hI') hdn
    unfold f_X5_goCount_174
    show (bnd (up2 (setD V (I, w2, f, w3)) 0 5 (nI I &&& (ishl (1 : Int32) (nI w1) ^^^ (-1 : Int32)))) fun V_1 => bd1 (f_X5_nextFrom V_1 L (nI w1) (0 : Int32)) fun r_2 => bnd (up2 V_1 0 7 r_2) fun V_3 => some (nI w1, V_3, L)) = _
    rw [ishl_one w1 (by omega), nI_dif, setD_5]
    show (bd1 (f_X5_nextFrom (setD V (dif I (2 ^ w1), w2, f, w3)) L (nI w1) (0 : Int32)) fun r_2 => some (nI w1, up2 (setD V (dif I (2 ^ w1), w2, f, w3)) 0 7 r_2, L)) = _
    rw [nextFrom_in (st := (dif I (2 ^ w1), w2, f, w3)) hM hn ⟨dif_lt hI', hw.2, hf'⟩ (fun i hi => (hB.2.2.2.2 i hi).1) hw1 hj2 hpj3]
    show some (nI w1, up2 (setD V (dif I (2 ^ w1), w2, f, w3)) 0 7 (nI _), L) = _
    rw [setD_7]
  have fin2 : ∀ t : Nat, I.testBit (it o n t f) = true → cum (wgt I T B) o n f t = 0 → t ≤ n → f_X5_goCount_42 (setD V (I, S, f, o)) L (nI ((beats - 1) % tog I T B + 1)) (nI (it o n t f)) = some (nI (cnt n T B Y G (I, S, f, o) beats).1, setD V (cnt n T B Y G (I, S, f, o) beats).2, L) := by
    intro t hin hcu htn
    have hi : it o n t f < n := it_lt _ _ hf'
    unfold f_X5_goCount_42
    rw [if_pos (ib_nI (show it o n t f < 9 by omega) (by decide)), nI_clamp (by omega), show setD V (I, S, f, o) 4 (it o n t f) = nI (K (it o n t f)) from hM.2 _ hi, takes_eq (hB.2.2.2.2 _ hi).1, hB.tak hi, ← wgt_in hin]
    have e := fin t hin (by rw [hcu]; exact Nat.zero_le _) htn
    rw [cum_succ, hcu, Nat.zero_add] at e
    exact e
  unfold f_X5_goCount
  rw [beatsIn_eq hM hn hs hB]
  show (if nI (tog I T B) = 0 then none else bnd (irem (nI beats - 1) (nI (tog I T B)) + 1) fun t_2 => if f_X5_isIn (nI I) (nI f) = 0 then (bd1 (f_X5_nextFrom (setD V (I, S, f, o)) L (nI f) (0 : Int32)) fun r_3 => f_X5_goCount_42 (setD V (I, S, f, o)) L t_2 r_3) else f_X5_goCount_42 (setD V (I, S, f, o)) L t_2 (nI f)) = _
  rw [if_neg (nI_ne0 htp (by omega))]
  have hirem : irem (nI beats - 1) (nI (tog I T B)) + 1 = nI ((beats - 1) % tog I T B + 1) := by
    obtain ⟨b1, rfl⟩ : ∃ g, beats = g + 1 := ⟨beats - 1, by omega⟩
    rw [nI_pred]
    unfold irem
    rw [pk_rem (by omega) htp (by omega), nI_1]
    rfl
  rw [hirem, isIn_eq (by omega) (by omega)]
  simp only [bnd]
  cases hfb : I.testBit f with
  | true =>
    rw [if_neg (by decide)]
    exact fin2 0 hfb rfl (by omega)
  | false =>
    rw [if_pos (by rfl), nextFrom_in (st := (I, S, f, o)) hM hn hs (fun i hi => (hB.2.2.2.2 i hi).1) hf' hj hpj2]
    obtain ⟨d, g1, g2, g3, g4⟩ := nx_way (p := fun k => I.testBit k) (o := o) (wgt I T B) (fun k _ h => wgt_out h) n f hf' (ht_any hf' hj hpj2)
    show f_X5_goCount_42 (setD V (I, S, f, o)) L _ (nI (nx (fun k => I.testBit k) o n n f)) = _
    rw [g3]
    refine fin2 d ?_ (cum_zero (fun u hu => ?_)) g2
    · rw [← g3]
      exact nx_hit (p := fun k => I.testBit k) n _ (ht_any hf' hj hpj2)
    · rcases Nat.eq_zero_or_pos u with rfl | hu0
      · exact wgt_out hfb
      · exact g4 u hu0 hu
