/-! on whom the last BEAT falls: both walks end at the one place where the weights pass the rest -/
def it (o : Bool) (n : Nat) : Nat → Nat → Nat
  | 0, i => i
  | u + 1, i => it o n u (stp o n i)
theorem it_lt {o : Bool} {n : Nat} : ∀ (u i : Nat), i < n → it o n u i < n := by
  intro u
  induction u with
  | zero => intro i hi; exact hi
  | succ u ih => intro i hi; exact ih _ (stp_lt hi)
theorem it_add {o : Bool} {n : Nat} : ∀ (u v i : Nat), it o n (u + v) i = it o n v (it o n u i) := by
  intro u
  induction u with
  | zero => intro v i; rw [Nat.zero_add]; rfl
  | succ u ih => intro v i; rw [Nat.succ_add]; exact ih v _
theorem it_fwd {n : Nat} : ∀ (u i : Nat), i < n → u ≤ n → it true n u i = if i + u < n then i + u else i + u - n := by
  intro u
  induction u with
  | zero => intro i hi _; rw [if_pos (by omega)]; rfl
  | succ u ih =>
    intro i hi hu
    rw [it, ih _ (stp_lt hi) (by omega)]
    unfold stp
    simp only [if_true]
    split <;> split <;> split <;> omega
theorem it_bwd {n : Nat} : ∀ (u i : Nat), i < n → u ≤ n → it false n u i = if u ≤ i then i - u else i + n - u := by
  intro u
  induction u with
  | zero => intro i hi _; rw [if_pos (by omega)]; rfl
  | succ u ih =>
    intro i hi hu
    rw [it, ih _ (stp_lt hi) (by omega)]
    unfold stp
    simp only [Bool.false_eq_true, if_false]
    split <;> split <;> split <;> omega
theorem sm_rev (w : Nat → Nat) : ∀ n, fb_sm (fun u => w (n - 1 - u)) n = fb_sm w n := by
  intro n
  induction n generalizing w with
  | zero => rfl
  | succ n ih =>
    have e := fb_sm_split (fun u => w (n + 1 - 1 - u)) 1 n
    rw [show 1 + n = n + 1 by omega] at e
    rw [e, fb_sm_succ w n]
    have e2 : fb_sm (fun k => w (n + 1 - 1 - (1 + k))) n = fb_sm w n := by
      rw [← ih w]
      exact fb_sm_cong (fun k hk => by rw [show n + 1 - 1 - (1 + k) = n - 1 - k by omega])
    rw [e2]
    show 0 + w (n + 1 - 1 - 0) + _ = _
    rw [show n + 1 - 1 - 0 = n by omega]
    omega
/-- a whole turn meets everybody -/
theorem sm_turn (w : Nat → Nat) {o : Bool} {n f : Nat} (hf : f < n) : fb_sm (fun u => w (it o n u f)) n = fb_sm w n := by
  cases o with
  | true =>
    have e := fb_sm_split (fun u => w (it true n u f)) (n - f) f
    rw [show n - f + f = n by omega] at e
    have e2 := fb_sm_split w f (n - f)
    rw [show f + (n - f) = n by omega] at e2
    rw [e, e2, Nat.add_comm]
    congr 1
    · exact fb_sm_cong (fun k hk => by rw [it_fwd _ _ hf (by omega), if_neg (by omega)]; congr 1; omega)
    · exact fb_sm_cong (fun k hk => by rw [it_fwd _ _ hf (by omega), if_pos (by omega)])
  | false =>
    have e := fb_sm_split (fun u => w (it false n u f)) (f + 1) (n - (f + 1))
    rw [show f + 1 + (n - (f + 1)) = n by omega] at e
    have e2 := fb_sm_split w (f + 1) (n - (f + 1))
    rw [show f + 1 + (n - (f + 1)) = n by omega] at e2
    rw [e, e2]
    congr 1
    · rw [← sm_rev w (f + 1)]
      exact fb_sm_cong (fun k hk => by rw [it_bwd _ _ hf (by omega), if_pos (by omega)]; congr 1)
    · rw [← sm_rev (fun k => w (f + 1 + k)) (n - (f + 1))]
      exact fb_sm_cong (fun k hk => by rw [it_bwd _ _ hf (by omega), if_neg (by omega)]; congr 1; omega)
/-- the weights on the way, the first t places -/
def cum (w : Nat → Nat) (o : Bool) (n f t : Nat) : Nat := fb_sm (fun u => w (it o n u f)) t
theorem it_succ {o : Bool} {n : Nat} (u i : Nat) : it o n (u + 1) i = stp o n (it o n u i) := it_add u 1 i
theorem cum_succ (w : Nat → Nat) (o : Bool) (n f t : Nat) : cum w o n f (t + 1) = cum w o n f t + w (it o n t f) := rfl
theorem cum_mono (w : Nat → Nat) (o : Bool) (n f : Nat) {t u : Nat} (h : t ≤ u) : cum w o n f t ≤ cum w o n f u := by
  obtain ⟨d, rfl⟩ := Nat.exists_eq_add_of_le h
  exact fb_sm_mono _ t d
def At (w : Nat → Nat) (o : Bool) (n f r i : Nat) : Prop := ∃ t, it o n t f = i ∧ cum w o n f t ≤ r ∧ r < cum w o n f (t + 1)
theorem At.one {w : Nat → Nat} {o : Bool} {n f r i j : Nat} (h : At w o n f r i) (h2 : At w o n f r j) : i = j := by
  obtain ⟨t, e1, a1, b1⟩ := h
  obtain ⟨u, e2, a2, b2⟩ := h2
  have : t = u := by
    rcases Nat.lt_trichotomy t u with q | q | q
    · have := cum_mono w o n f (show t + 1 ≤ u from q)
      omega
    · exact q
    · have := cum_mono w o n f (show u + 1 ≤ t from q)
      omega
  subst this
  exact e1.symm.trans e2
/-- going on to the next one of a set: what lies between weighs nothing -/
theorem nx_way {p : Nat → Bool} {o : Bool} {n : Nat} (w : Nat → Nat) (hw : ∀ k, k < n → p k = false → w k = 0) : ∀ (m i : Nat), i < n → ht p o n m i → ∃ d, 1 ≤ d ∧ d ≤ m ∧ nx p o n m i = it o n d i ∧ ∀ u, 1 ≤ u → u < d → w (it o n u i) = 0 := by
  intro m
  induction m with
  | zero => intro i hi h; exact h.elim
  | succ m ih =>
    intro i hi h
    rw [nx]
    by_cases hp : p (stp o n i) = true
    · rw [if_pos hp]
      exact ⟨1, by omega, by omega, rfl, fun u h1 h2 => by omega⟩
    · rw [if_neg hp]
      obtain ⟨d, h1, h2, h3, h4⟩ := ih _ (stp_lt hi) (h.resolve_left hp)
      refine ⟨d + 1, by omega, by omega, h3, fun u hu1 hu2 => ?_⟩
      obtain ⟨v, rfl⟩ : ∃ v, u = v + 1 := ⟨u - 1, by omega⟩
      rcases Nat.eq_zero_or_pos v with rfl | hv
      · exact hw _ (stp_lt hi) (show p (stp o n i) = false by simpa using hp)
      · exact h4 v hv (by omega)
theorem cum_way {w : Nat → Nat} {o : Bool} {n f t d : Nat} (hd : 1 ≤ d) (hz : ∀ u, 1 ≤ u → u < d → w (it o n u (it o n t f)) = 0) : cum w o n f (t + d) = cum w o n f (t + 1) := by
  induction d with
  | zero => omega
  | succ d ih =>
    rcases Nat.eq_zero_or_pos d with rfl | hd0
    · rfl
    · rw [show t + (d + 1) = (t + d) + 1 by omega, cum_succ, ih hd0 (fun u h1 h2 => hz u h1 (by omega)), it_add, hz d hd0 (by omega), Nat.add_zero]
/-- the class's walk -/
theorem fl_at {p : Nat → Bool} {t0 : Nat → Nat} {o : Bool} {n f r : Nat} (w : Nat → Nat) (hf : f < n) (hwp : ∀ k, k < n → p k = true → w k = t0 k) (hwn : ∀ k, k < n → p k = false → w k = 0) (hpos : ∃ j, j < n ∧ p j = true) (hr : r < fb_sm w n) :
    ∀ (m t r1 : Nat), n ≤ t + m → p (it o n t f) = true → cum w o n f t + r1 = r → At w o n f r (fl p t0 o n m (it o n t f) r1) := by
  obtain ⟨j, hj, hpj⟩ := hpos
  intro m
  induction m with
  | zero =>
    intro t r1 ht _ hc
    have h1 := cum_mono w o n f (show n ≤ t by omega)
    have h2 : cum w o n f n = fb_sm w n := sm_turn w hf
    omega
  | succ m ih =>
    intro t r1 hm hp hc
    have hi := it_lt (o := o) t f hf
    rw [fl]
    by_cases hle : t0 (it o n t f) ≤ r1
    · rw [if_pos hle]
      obtain ⟨d, h1, h2, h3, h4⟩ := nx_way (o := o) w hwn n (it o n t f) hi (ht_any hi hj hpj)
      have hcw := cum_way (w := w) (o := o) (n := n) (f := f) (t := t) h1 h4
      have hp2 : p (it o n (t + d) f) = true := by
        rw [it_add, ← h3]
        exact nx_hit n _ (ht_any hi hj hpj)
      have e := ih (t + d) (r1 - t0 (it o n t f)) (by omega) hp2 (by
        rw [hcw, cum_succ, hwp _ hi hp]
        omega)
      rw [it_add, ← h3] at e
      exact e
    · rw [if_neg hle]
      refine ⟨t, rfl, by omega, ?_⟩
      rw [cum_succ, hwp _ hi hp]
      omega
def wgt (I T B k : Nat) : Nat := if (dif I B).testBit k then tkn T B k else 0
theorem cum_zero {w : Nat → Nat} {o : Bool} {n f d : Nat} (hz : ∀ u, u < d → w (it o n u f) = 0) : cum w o n f d = 0 := by
  induction d with
  | zero => rfl
  | succ d ih => rw [cum_succ, ih (fun u hu => hz u (by omega)), hz d (by omega)]
theorem sm_pad {w : Nat → Nat} {n : Nat} (h : ∀ k, n ≤ k → w k = 0) : ∀ d, fb_sm w (n + d) = fb_sm w n := by
  intro d
  induction d with
  | zero => rfl
  | succ d ih => rw [show n + (d + 1) = (n + d) + 1 by omega, fb_sm_succ, ih, h _ (by omega), Nat.add_zero]
theorem ct_sm (p : Nat → Bool) : ∀ n, fb_ct p n = fb_sm (fun k => if p k then 1 else 0) n := by
  intro n
  induction n with
  | zero => rfl
  | succ n ih => rw [fb_ct_succ, fb_sm_succ, ih]
theorem tog_sm {n I T B : Nat} (hn : n ≤ 9) (hI : I < 2 ^ n) : tog I T B = fb_sm (wgt I T B) n := by
  have h9 : fb_sm (wgt I T B) n = fb_sm (wgt I T B) 9 := by
    obtain ⟨d, hd⟩ := Nat.exists_eq_add_of_le hn
    rw [hd, sm_pad (fun k hk => by unfold wgt; rw [bit_out (dif_lt hI) hk]; rfl)]
  rw [h9]
  unfold tog pop
  rw [ct_sm, ct_sm, ← fb_sm_add]
  refine fb_sm_cong (fun k _ => ?_)
  show (if (dif I B).testBit k then 1 else 0) + (if (dif I B &&& T).testBit k then 1 else 0) = wgt I T B k
  unfold wgt tkn
  rw [Nat.testBit_and]
  cases hd : (dif I B).testBit k with
  | false => simp
  | true =>
    have hb : B.testBit k = false := by
      rw [dif_bit] at hd
      cases hB : B.testBit k with
      | false => rfl
      | true => rw [hB] at hd; simp at hd
    rw [hb]
    cases T.testBit k <;> simp
theorem fallS_at {n T B I f beats : Nat} {o : Bool} (hn : n ≤ 9) (hI : I < 2 ^ n) (hf : f < n) (hd : dif I B ≠ 0) : At (wgt I T B) o n f ((beats - 1) % tog I T B) (fallS n T B I f o beats) := by
  obtain ⟨j, hj, hpj⟩ := ne0_bit9 (dif_lt (b := B) hI) hd
  have htog : 0 < tog I T B := by
    have := pop_pos hn (dif_lt (b := B) hI) hd
    unfold tog
    omega
  have hr : (beats - 1) % tog I T B < fb_sm (wgt I T B) n := by
    rw [← tog_sm hn hI]
    exact Nat.mod_lt _ htog
  have h1 : ∀ k, k < n → (dif I B).testBit k = true → wgt I T B k = tkn T B k := fun k _ h => by unfold wgt; rw [if_pos h]
  have h2 : ∀ k, k < n → (dif I B).testBit k = false → wgt I T B k = 0 := fun k _ h => by unfold wgt; rw [h]; rfl
  unfold fallS
  by_cases hfb : (dif I B).testBit f = true
  · rw [if_pos hfb]
    exact fl_at (o := o) (wgt I T B) hf h1 h2 ⟨j, hj, hpj⟩ hr n 0 _ (by omega) hfb (by show 0 + _ = _; omega)
  · rw [if_neg hfb]
    obtain ⟨d, g1, g2, g3, g4⟩ := nx_way (o := o) (wgt I T B) h2 n f hf (ht_any hf hj hpj)
    rw [g3]
    refine fl_at (o := o) (wgt I T B) hf h1 h2 ⟨j, hj, hpj⟩ hr n d _ (by omega) ?_ ?_
    · rw [← g3]
      exact nx_hit n _ (ht_any hf hj hpj)
    · rw [cum_zero (fun u hu => ?_), Nat.zero_add]
      rcases Nat.eq_zero_or_pos u with rfl | hu0
      · exact h2 f hf (by simpa using hfb)
      · exact g4 u hu0 hu
