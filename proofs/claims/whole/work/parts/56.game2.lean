/-! GAME: the reference's plays by codes, and its folding -/
section
variable (n T B Y G nv : Nat) (bt : Nat → Nat) (a b : Nat)
def pl : Nat → (Nat × Nat × Nat × Bool) → Nat → Nat × Nat
  | 0, _, _ => (1, 0)
  | m + 1, st, c => if canB st.1 B then (if (cnt n T B Y G st (bt (c / nv ^ m % nv))).1 = b then (2, 1) else if (cnt n T B Y G st (bt (c / nv ^ m % nv))).1 = a then (0, 1) else ((pl m (cnt n T B Y G st (bt (c / nv ^ m % nv))).2 c).1, (pl m (cnt n T B Y G st (bt (c / nv ^ m % nv))).2 c).2 + 1)) else (1, 0)
end
def fd (nv : Nat) : Nat → Bool → (Nat → Nat) → Nat
  | 0, _, f => f 0
  | m + 1, tn, f => op nv tn (fun v => fd nv m (!tn) (fun c => f (v * nv ^ m + c)))
theorem opF_cong {tn : Bool} {f g : Nat → Nat} : ∀ (m v best : Nat), (∀ u, v ≤ u → u < v + m → f u = g u) → opF tn f m v best = opF tn g m v best := by
  intro m
  induction m with
  | zero => intro v best _; rfl
  | succ m ih =>
    intro v best h
    rw [opF, opF, h v (by omega) (by omega), ih _ _ (fun u h1 h2 => h u (by omega) (by omega))]
theorem op_cong {nv : Nat} {tn : Bool} {f g : Nat → Nat} (hnv : 1 ≤ nv) (h : ∀ v, v < nv → f v = g v) : op nv tn f = op nv tn g := by
  unfold op
  rw [h 0 (by omega), opF_cong _ _ _ (fun u h1 h2 => h u (by omega))]
theorem opF_const {tn : Bool} {x : Nat} : ∀ (m v : Nat), opF tn (fun _ => x) m v x = x := by
  intro m
  induction m with
  | zero => intro v; rfl
  | succ m ih =>
    intro v
    rw [opF]
    have : (if (if tn = true then x < x else x < x) then x else x) = x := by simp
    rw [this, ih]
section
variable {nv : Nat}
theorem fd_cong (hnv : 1 ≤ nv) : ∀ (m : Nat) (tn : Bool) (f g : Nat → Nat), (∀ c, c < nv ^ m → f c = g c) → fd nv m tn f = fd nv m tn g := by
  intro m
  induction m with
  | zero => intro tn f g h; exact h 0 (by rw [Nat.pow_zero]; decide)
  | succ m ih =>
    intro tn f g h
    rw [fd, fd]
    refine op_cong hnv (fun v hv => ih _ _ _ (fun c hc => h _ ?_))
    rw [Nat.pow_succ]
    have : (v + 1) * nv ^ m ≤ nv * nv ^ m := Nat.mul_le_mul_right _ (by omega)
    rw [Nat.add_mul, Nat.one_mul] at this
    rw [Nat.mul_comm (nv ^ m) nv]
    omega
theorem fd_const (hnv : 1 ≤ nv) (x : Nat) : ∀ (m : Nat) (tn : Bool), fd nv m tn (fun _ => x) = x := by
  intro m
  induction m with
  | zero => intro tn; rfl
  | succ m ih =>
    intro tn
    rw [fd]
    simp only [ih]
    exact opF_const _ _
def flp (t : Nat) (tn : Bool) : Bool := if t % 2 = 0 then tn else !tn
theorem flp_succ (t : Nat) (tn : Bool) : flp (t + 1) tn = flp t (!tn) := by
  unfold flp
  by_cases h : t % 2 = 0
  · rw [if_neg (by omega), if_pos h]
  · rw [if_pos (by omega), if_neg h]
    cases tn <;> rfl
theorem fd_bot : ∀ (t : Nat) (tn : Bool) (f : Nat → Nat), fd nv (t + 1) tn f = fd nv t tn (fun c => op nv (flp t tn) (fun v => f (nv * c + v))) := by
  intro t
  induction t with
  | zero =>
    intro tn f
    rw [fd]
    show op nv tn (fun v => f (v * nv ^ 0 + 0)) = op nv (flp 0 tn) (fun v => f (nv * 0 + v))
    simp [flp]
  | succ t ih =>
    intro tn f
    rw [fd, fd]
    congr 1
    funext u
    rw [ih, flp_succ]
    congr 1
    funext c
    congr 1
    funext v
    congr 1
    rw [Nat.pow_succ, Nat.mul_add, ← Nat.mul_assoc, ← Nat.mul_assoc, Nat.mul_comm nv u, Nat.mul_assoc u nv, Nat.mul_assoc u, Nat.mul_comm nv (nv ^ t), Nat.add_assoc]
theorem dig {m v c : Nat} (hnv : 1 ≤ nv) (hv : v < nv) (hc : c < nv ^ m) : (v * nv ^ m + c) / nv ^ m % nv = v := by
  rw [Nat.mul_comm v, Nat.mul_add_div (by omega), Nat.div_eq_of_lt hc, Nat.add_zero, Nat.mod_eq_of_lt hv]
end
section
variable {n T B Y G nv : Nat} {bt : Nat → Nat} {a b : Nat}
theorem pl_le : ∀ (m : Nat) (st : Nat × Nat × Nat × Bool) (c : Nat), (pl n T B Y G nv bt a b m st c).2 ≤ m := by
  intro m
  induction m with
  | zero => intro st c; exact Nat.le_refl 0
  | succ m ih =>
    intro st c
    rw [pl]
    split
    · split
      · show 1 ≤ m + 1; omega
      · split
        · show 1 ≤ m + 1; omega
        · have := ih (cnt n T B Y G st (bt (c / nv ^ m % nv))).2 c
          show _ + 1 ≤ m + 1
          omega
    · show 0 ≤ m + 1; omega
theorem pl_le2 : ∀ (m : Nat) (st : Nat × Nat × Nat × Bool) (c : Nat), (pl n T B Y G nv bt a b m st c).1 ≤ 2 := by
  intro m
  induction m with
  | zero => intro st c; show 1 ≤ 2; omega
  | succ m ih =>
    intro st c
    rw [pl]
    split
    · split
      · show 2 ≤ 2; omega
      · split
        · show 0 ≤ 2; omega
        · exact ih _ _
    · show 1 ≤ 2; omega
theorem pl_pre (hnv : 1 ≤ nv) : ∀ (m : Nat) (st : Nat × Nat × Nat × Bool) (c c' : Nat), c / nv ^ (m - (pl n T B Y G nv bt a b m st c').2) = c' / nv ^ (m - (pl n T B Y G nv bt a b m st c').2) → pl n T B Y G nv bt a b m st c = pl n T B Y G nv bt a b m st c' := by
  intro m
  induction m with
  | zero => intro st c c' _; rfl
  | succ m ih =>
    intro st c c' h
    by_cases hc : canB st.1 B = true
    · have hdg : ∀ e, 1 ≤ e → e ≤ m + 1 → c / nv ^ (m + 1 - e) = c' / nv ^ (m + 1 - e) → c / nv ^ m = c' / nv ^ m := by
        intro e h1 h2 h3
        have : nv ^ m = nv ^ (m + 1 - e) * nv ^ (e - 1) := by rw [← Nat.pow_add]; congr 1; omega
        rw [this, ← Nat.div_div_eq_div_mul, ← Nat.div_div_eq_div_mul, h3]
      have he : 1 ≤ (pl n T B Y G nv bt a b (m + 1) st c').2 := by
        rw [pl, if_pos hc]
        split
        · show 1 ≤ 1; omega
        · split
          · show 1 ≤ 1; omega
          · show 1 ≤ _ + 1; omega
      have hd := hdg _ he (pl_le _ _ _) h
      rw [pl, pl, if_pos hc, if_pos hc, hd]
      rw [pl, if_pos hc] at h
      by_cases h1 : (cnt n T B Y G st (bt (c' / nv ^ m % nv))).1 = b
      · rw [if_pos h1, if_pos h1]
      · rw [if_neg h1, if_neg h1]
        rw [if_neg h1] at h
        by_cases h2 : (cnt n T B Y G st (bt (c' / nv ^ m % nv))).1 = a
        · rw [if_pos h2, if_pos h2]
        · rw [if_neg h2, if_neg h2]
          rw [if_neg h2] at h
          have h' : c / nv ^ (m - (pl n T B Y G nv bt a b m (cnt n T B Y G st (bt (c' / nv ^ m % nv))).2 c').2) = c' / nv ^ (m - (pl n T B Y G nv bt a b m (cnt n T B Y G st (bt (c' / nv ^ m % nv))).2 c').2) := by
            rw [show m - (pl n T B Y G nv bt a b m (cnt n T B Y G st (bt (c' / nv ^ m % nv))).2 c').2 = m + 1 - ((pl n T B Y G nv bt a b m (cnt n T B Y G st (bt (c' / nv ^ m % nv))).2 c').2 + 1) by omega]
            exact h
          rw [ih _ _ _ h']
    · rw [pl, pl, if_neg hc, if_neg hc]
theorem pl_add (hnv : 1 ≤ nv) : ∀ (m : Nat) (st : Nat × Nat × Nat × Bool) (x c : Nat), pl n T B Y G nv bt a b m st (x * nv ^ m + c) = pl n T B Y G nv bt a b m st c := by
  intro m
  induction m with
  | zero => intro st x c; rfl
  | succ m ih =>
    intro st x c
    have hpos : 0 < nv ^ m := Nat.pow_pos (by omega)
    have e : x * nv ^ (m + 1) + c = (x * nv) * nv ^ m + c := by rw [Nat.pow_succ, Nat.mul_assoc, Nat.mul_comm (nv ^ m) nv]
    have hd : (x * nv ^ (m + 1) + c) / nv ^ m % nv = c / nv ^ m % nv := by
      rw [e, Nat.mul_comm (x * nv), Nat.mul_add_div hpos, Nat.mul_comm x nv, Nat.mul_add_mod]
    rw [pl, pl, hd, e, ih]
theorem fd_pl (hnv : 1 ≤ nv) : ∀ (m : Nat) (tn : Bool) (st : Nat × Nat × Nat × Bool), fd nv m tn (fun c => (pl n T B Y G nv bt a b m st c).1) = gv n T B Y G nv bt a b m tn st := by
  intro m
  induction m with
  | zero => intro tn st; rfl
  | succ m ih =>
    intro tn st
    by_cases hc : canB st.1 B = true
    · rw [fd, gv, if_pos hc]
      refine op_cong hnv (fun v hv => ?_)
      by_cases h1 : (cnt n T B Y G st (bt v)).1 = b
      · rw [if_pos h1, fd_cong hnv _ _ _ (fun _ => 2), fd_const hnv]
        intro c hcc
        rw [pl, if_pos hc, dig hnv hv hcc, if_pos h1]
      · rw [if_neg h1]
        by_cases h2 : (cnt n T B Y G st (bt v)).1 = a
        · rw [if_pos h2, fd_cong hnv _ _ _ (fun _ => 0), fd_const hnv]
          intro c hcc
          rw [pl, if_pos hc, dig hnv hv hcc, if_neg h1, if_pos h2]
        · rw [if_neg h2, ← ih]
          refine fd_cong hnv _ _ _ _ (fun c hcc => ?_)
          rw [pl, if_pos hc, dig hnv hv hcc, if_neg h1, if_neg h2, pl_add hnv]
    · rw [gv, if_neg hc, fd_cong hnv _ _ _ (fun _ => 1), fd_const hnv]
      intro c _
      rw [pl, if_neg hc]
end
section
variable {n : Nat} {K : Nat → Nat} {T B Y G : Nat} {nv : Nat} {bt : Nat → Nat} {a b : Nat} {st : Nat × Nat × Nat × Bool}
def Sv (U : Nat → Nat → Int32) (st : Nat × Nat × Nat × Bool) : Prop := U 0 18 = nI st.1 ∧ U 0 19 = nI st.2.1 ∧ U 0 20 = nI st.2.2.1 ∧ U 0 21 = bz st.2.2.2
def Vs (U : Nat → Nat → Int32) (nv : Nat) (bt : Nat → Nat) : Prop := U 0 2 = nI nv ∧ ∀ v, v < nv → U 3 v = nI (bt v)
theorem setD_f {U : Nat → Nat → Int32} {sx : Nat × Nat × Nat × Bool} (x : Nat) (h5 : x ≠ 5) (h6 : x ≠ 6) (h7 : x ≠ 7) (h8 : x ≠ 8) : setD U sx 0 x = U 0 x := by
  unfold setD
  rw [if_pos rfl, if_neg h5, if_neg h6, if_neg h7, if_neg h8]
theorem setD_a {U : Nat → Nat → Int32} {sx : Nat × Nat × Nat × Bool} (x : Nat) (h : x ≠ 0) : setD U sx x = U x := by
  funext b
  unfold setD
  rw [if_neg h]
theorem play_told {U : Nat → Nat → Int32} (hSv : Sv U st) {x1 x3 x4 x5 : Int32} {t : Nat} (ht : t ≤ 2) {g : Nat} {L : Nat → Int64} : f_X5_playBy_15 x1 x3 x4 (g + 1) U L x5 (nI t) = some (nI t, setD U st, L) := by
  rw [f_X5_playBy_15, if_neg (show ¬ nI t = (-1 : Int32) from fun e => by
    have := congrArg Int32.toInt e
    rw [nI_toInt (by omega)] at this
    have h2 : (-1 : Int32).toInt = -1 := by decide
    omega), load_any hSv]
  rfl
theorem pow_div {nv m : Nat} (h : 1 ≤ nv) : nv ^ (m + 1) / nv = nv ^ m := by
  rw [Nat.pow_succ, Nat.mul_div_cancel _ (by omega)]
theorem pow3 : ∀ nv, nv ≤ 3 → ∀ m, m ≤ 7 → nv ^ m ≤ 2187 := by decide
theorem play_loop (hn : n ≤ 8) (hB : KB n K T B Y G) (ha : a < n) (hb : b < n) (hnv1 : 1 ≤ nv) (hnv : nv ≤ 3) (hbt : ∀ v, v < nv → 1 ≤ bt v ∧ bt v ≤ 99) {code : Nat} (hcode : code < 2187) :
    ∀ (m e fuel : Nat) (sx : Nat × Nat × Nat × Bool) (U : Nat → Nat → Int32), A2 U n K sx → Sok n sx → pop sx.1 ≤ m + 1 → m ≤ 7 → Vs U nv bt → Sv U st → U 0 23 = nI e → m + 2 < fuel →
      ∃ W, (∀ L, f_X5_playBy_15 (nI code) (nI a) (nI b) fuel U L (nI (nv ^ m)) (-1) = some (nI (pl n T B Y G nv bt a b m sx code).1, W, L)) ∧ (W 0 5 = nI st.1 ∧ W 0 6 = nI st.2.1 ∧ W 0 7 = nI st.2.2.1 ∧ W 0 8 = bz st.2.2.2) ∧ W 0 23 = nI (e + (pl n T B Y G nv bt a b m sx code).2) ∧ (∀ x, x ≠ 5 → x ≠ 6 → x ≠ 7 → x ≠ 8 → x ≠ 23 → W 0 x = U 0 x) ∧ ∀ x, x ≠ 0 → W x = U x := by
  intro m
  induction m with
  | zero =>
    intro e fuel sx U hA hs hp hm hV hSv h23 hf
    obtain ⟨g, rfl⟩ : ∃ g, fuel = g + 1 := ⟨fuel - 1, by omega⟩
    obtain ⟨g2, rfl⟩ : ∃ g2, g = g2 + 1 := ⟨g - 1, by omega⟩
    have hc : canB sx.1 B = false := by
      cases hc : canB sx.1 B with
      | false => rfl
      | true => have := (canB_can hc).2; omega
    refine ⟨setD U st, fun L => ?_, ⟨rfl, rfl, rfl, rfl⟩, ?_, fun x h5 h6 h7 h8 _ => setD_f x h5 h6 h7 h8, fun x hx => setD_a x hx⟩
    · have hi := isCount_eq (L := L) hA.2 (show n ≤ 9 by omega) hs hB
      rw [hA.sd, hc] at hi
      rw [f_X5_playBy_15, if_pos rfl, hi, bd1_s, if_pos (show bz false = 0 from rfl), show (1 : Int32) = nI 1 by decide, play_told hSv (by omega)]
      rfl
    · rw [setD_f 23 (by decide) (by decide) (by decide) (by decide), h23]
      rfl
  | succ m ih =>
    intro e fuel sx U hA hs hp hm hV hSv h23 hf
    obtain ⟨g, rfl⟩ : ∃ g, fuel = g + 1 := ⟨fuel - 1, by omega⟩
    obtain ⟨g2, rfl⟩ : ∃ g2, g = g2 + 1 := ⟨g - 1, by omega⟩
    cases hc : canB sx.1 B with
    | false =>
      have hpl : pl n T B Y G nv bt a b (m + 1) sx code = (1, 0) := by rw [pl, hc]; rfl
      refine ⟨setD U st, fun L => ?_, ⟨rfl, rfl, rfl, rfl⟩, ?_, fun x h5 h6 h7 h8 _ => setD_f x h5 h6 h7 h8, fun x hx => setD_a x hx⟩
      · have hi := isCount_eq (L := L) hA.2 (show n ≤ 9 by omega) hs hB
        rw [hA.sd, hc] at hi
        rw [f_X5_playBy_15, if_pos rfl, hi, bd1_s, if_pos (show bz false = 0 from rfl), show (1 : Int32) = nI 1 by decide, play_told hSv (by omega), hpl]
      · rw [setD_f 23 (by decide) (by decide) (by decide) (by decide), h23, hpl]
        rfl
    | true =>
      have hpos : 0 < nv ^ m := Nat.pow_pos (by omega)
      have hpw := pow3 nv hnv m (by omega)
      have hpw1 := pow3 nv hnv (m + 1) (by omega)
      have hv : code / nv ^ m % nv < nv := Nat.mod_lt _ (by omega)
      have hcd : code / nv ^ m ≤ code := Nat.div_le_self _ _
      obtain ⟨q1, q2⟩ := hbt _ hv
      have hok := cnt_ok (T := T) (B := B) (Y := Y) (G := G) (beats := bt (code / nv ^ m % nv)) hs
      have hpop := cnt_pop (T := T) (Y := Y) (G := G) (beats := bt (code / nv ^ m % nv)) (show n ≤ 9 by omega) hs hc
      have hg := fun L => goCount_eq (L := L) hA.2 (show n ≤ 9 by omega) hs hB q1 q2 hc
      rw [hA.sd] at hg
      have hpl : pl n T B Y G nv bt a b (m + 1) sx code = (if (cnt n T B Y G sx (bt (code / nv ^ m % nv))).1 = b then (2, 1) else if (cnt n T B Y G sx (bt (code / nv ^ m % nv))).1 = a then (0, 1) else ((pl n T B Y G nv bt a b m (cnt n T B Y G sx (bt (code / nv ^ m % nv))).2 code).1, (pl n T B Y G nv bt a b m (cnt n T B Y G sx (bt (code / nv ^ m % nv))).2 code).2 + 1)) := by rw [pl, hc]; rfl
      rw [hpl]
      generalize hcnt : cnt n T B Y G sx (bt (code / nv ^ m % nv)) = o at hok hpop hg
      obtain ⟨U1, e1, a1, b1, c1⟩ := up_ex (setD U o.2) 0 23 (nI (e + 1))
      have hSv1 : Sv U1 st := ⟨by rw [b1 18 (by decide)]; exact hSv.1, by rw [b1 19 (by decide)]; exact hSv.2.1, by rw [b1 20 (by decide)]; exact hSv.2.2.1, by rw [b1 21 (by decide)]; exact hSv.2.2.2⟩
      have head : ∀ L, f_X5_playBy_15 (nI code) (nI a) (nI b) (g2 + 1 + 1) U L (nI (nv ^ (m + 1))) (-1) = (if nI o.1 = nI b then (f_X5_playBy_15 (nI code) (nI a) (nI b) (g2 + 1) U1 L (nI (nv ^ m)) (2 : Int32)) else (if nI o.1 = nI a then (f_X5_playBy_15 (nI code) (nI a) (nI b) (g2 + 1) U1 L (nI (nv ^ m)) (0 : Int32)) else (f_X5_playBy_15 (nI code) (nI a) (nI b) (g2 + 1) U1 L (nI (nv ^ m)) (-1 : Int32)))) := by
        intro L
        have hi := isCount_eq (L := L) hA.2 (show n ≤ 9 by omega) hs hB
        rw [hA.sd, hc] at hi
        rw [f_X5_playBy_15, if_pos rfl, hi, bd1_s, if_neg (show ¬ bz true = 0 by decide), hV.1, if_neg (nI_ne0 (by omega) (by omega)), pk_div (by omega) (by omega) (by omega), pow_div hnv1, if_neg (nI_ne0 hpos (by omega)), if_neg (nI_ne0 (by omega) (by omega)), pk_div (by omega) hpos (by omega)]
        unfold irem
        rw [pk_rem (by omega) (by omega) (by omega), if_pos (ib_nI (show code / nv ^ m % nv < 3 by omega) (by decide)), nI_clamp (by omega), hV.2 _ hv, hg L, bd3_s, show setD U o.2 0 23 = nI e from h23, nI_1, e1, bnd_e]
      have fr : ∀ x, x ≠ 5 → x ≠ 6 → x ≠ 7 → x ≠ 8 → x ≠ 23 → U1 0 x = U 0 x := fun x h5 h6 h7 h8 h9 => by rw [b1 x h9, setD_f x h5 h6 h7 h8]
      have fa : ∀ x, x ≠ 0 → U1 x = U x := fun x hx => by rw [c1 x hx, setD_a x hx]
      have h1o : o.1 < n := hok.1
      by_cases h1 : o.1 = b
      · rw [if_pos h1]
        refine ⟨setD U1 st, fun L => ?_, ⟨rfl, rfl, rfl, rfl⟩, ?_, fun x h5 h6 h7 h8 h9 => (setD_f x h5 h6 h7 h8).trans (fr x h5 h6 h7 h8 h9), fun x hx => (setD_a x hx).trans (fa x hx)⟩
        · rw [head L, if_pos (by rw [h1]), show (2 : Int32) = nI 2 by decide, play_told hSv1 (by omega)]
        · rw [setD_f 23 (by decide) (by decide) (by decide) (by decide), a1]
      · have h1' : ¬ nI o.1 = nI b := fun e => h1 ((nI_eq (by omega) (by omega)).mp e)
        rw [if_neg h1]
        by_cases h2 : o.1 = a
        · rw [if_pos h2]
          refine ⟨setD U1 st, fun L => ?_, ⟨rfl, rfl, rfl, rfl⟩, ?_, fun x h5 h6 h7 h8 h9 => (setD_f x h5 h6 h7 h8).trans (fr x h5 h6 h7 h8 h9), fun x hx => (setD_a x hx).trans (fa x hx)⟩
          · rw [head L, if_neg h1', if_pos (by rw [h2]), show (0 : Int32) = nI 0 by decide, play_told hSv1 (by omega)]
          · rw [setD_f 23 (by decide) (by decide) (by decide) (by decide), a1]
        · have h2' : ¬ nI o.1 = nI a := fun e => h2 ((nI_eq (by omega) (by omega)).mp e)
          rw [if_neg h2]
          have hA1 : A2 U1 n K o.2 := by
            refine ⟨⟨?_, ?_, ?_, ?_⟩, ?_, fun i hi => ?_⟩
            · rw [b1 5 (by decide)]; rfl
            · rw [b1 6 (by decide)]; rfl
            · rw [b1 7 (by decide)]; rfl
            · rw [b1 8 (by decide)]; rfl
            · rw [fr 1 (by decide) (by decide) (by decide) (by decide) (by decide)]; exact hA.2.1
            · rw [fa 4 (by decide)]; exact hA.2.2 i hi
          have hV1 : Vs U1 nv bt := ⟨by rw [fr 2 (by decide) (by decide) (by decide) (by decide) (by decide)]; exact hV.1, by rw [fa 3 (by decide)]; exact hV.2⟩
          obtain ⟨W, w1, w2, w3, w4, w5⟩ := ih (e + 1) (g2 + 1) o.2 U1 hA1 hok.2 (by omega) (by omega) hV1 hSv1 a1 (by omega)
          refine ⟨W, fun L => ?_, w2, ?_, fun x h5 h6 h7 h8 h9 => (w4 x h5 h6 h7 h8 h9).trans (fr x h5 h6 h7 h8 h9), fun x hx => (w5 x hx).trans (fa x hx)⟩
          · rw [head L, if_neg h1', if_neg h2']
            exact w1 L
          · rw [w3]
            congr 1
            omega
theorem play_eq (hn : n ≤ 8) (hB : KB n K T B Y G) (ha : a < n) (hb : b < n) (hnv1 : 1 ≤ nv) (hnv : nv ≤ 3) (hbt : ∀ v, v < nv → 1 ≤ bt v ∧ bt v ≤ 99) {code : Nat} (hcode : code < 2187) {V2 : Nat → Nat → Int32} (hA : A2 V2 n K st) (hs : Sok n st) (hV : Vs V2 nv bt) :
    ∃ W, (∀ L, f_X5_playBy V2 L (nI code) (nI (nv ^ 7)) (nI a) (nI b) = some (nI (pl n T B Y G nv bt a b 7 st code).1, W, L)) ∧ W 0 23 = nI (pl n T B Y G nv bt a b 7 st code).2 ∧ RF V2 W ∧ ∀ x, x ≠ 0 → W x = V2 x := by
  have hro : RO V2 (setD (setSv V2 st) st) := hA.svo
  have hsv : Sv (setD (setSv V2 st) st) st := ⟨rfl, rfl, rfl, rfl⟩
  have hsave : ∀ L, f_X5_save V2 L = some (setD (setSv V2 st) st, L) := fun L => by
    have := save_eq V2 L st
    rw [hA.sd] at this
    exact this
  generalize setD (setSv V2 st) st = S1 at hro hsv hsave
  obtain ⟨U, e1, a1, b1, c1⟩ := up_ex S1 0 23 0
  have hF : ∀ x, x < 18 ∨ 23 < x → U 0 x = V2 0 x := fun x hx => by rw [b1 x (by omega)]; exact hro.1 x (by omega)
  have hFa : ∀ x, x ≠ 0 → U x = V2 x := fun x hx => by rw [c1 x hx]; exact hro.2 x (by omega)
  have hAU : A2 U n K st := by
    refine ⟨?_, ?_, fun i hi => ?_⟩
    · rw [hF 5 (by omega), hF 6 (by omega), hF 7 (by omega), hF 8 (by omega)]; exact hA.1
    · rw [hF 1 (by omega)]; exact hA.2.1
    · rw [hFa 4 (by decide)]; exact hA.2.2 i hi
  have hVU : Vs U nv bt := ⟨by rw [hF 2 (by omega)]; exact hV.1, by rw [hFa 3 (by decide)]; exact hV.2⟩
  have hSU : Sv U st := ⟨by rw [b1 18 (by decide)]; exact hsv.1, by rw [b1 19 (by decide)]; exact hsv.2.1, by rw [b1 20 (by decide)]; exact hsv.2.2.1, by rw [b1 21 (by decide)]; exact hsv.2.2.2⟩
  have hp := pop_n (show n ≤ 9 by omega) hs.1
  obtain ⟨W, w1, w2, w3, w4, w5⟩ := play_loop (st := st) hn hB ha hb hnv1 hnv hbt hcode 7 0 20000 st U hAU hs (by omega) (by omega) hVU hSU (by rw [a1]; rfl) (by omega)
  refine ⟨W, fun L => ?_, ?_, ⟨fun x hx => ?_, fun x hx _ => ?_⟩, fun x hx => (w5 x hx).trans (hFa x hx)⟩
  · unfold f_X5_playBy
    rw [hsave L, bd2_s, e1, bnd_e]
    exact w1 L
  · rw [w3, Nat.zero_add]
  · by_cases h5 : x = 5
    · subst h5; rw [w2.1]; exact hA.1.1.symm
    by_cases h6 : x = 6
    · subst h6; rw [w2.2.1]; exact hA.1.2.1.symm
    by_cases h7 : x = 7
    · subst h7; rw [w2.2.2.1]; exact hA.1.2.2.1.symm
    by_cases h8 : x = 8
    · subst h8; rw [w2.2.2.2]; exact hA.1.2.2.2.symm
    rw [w4 x h5 h6 h7 h8 (by omega)]
    exact hF x (by omega)
  · exact (w5 x (by omega)).trans (hFa x (by omega))
end
