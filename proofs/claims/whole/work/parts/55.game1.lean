/-! GAME: the values, and the class's search -/
/-- the first greatest, and where it is -/
def clsF (f : Nat → Nat) : Nat → Nat → Nat → Nat → Nat × Nat
  | 0, _, best, bv => (best, bv)
  | m + 1, v, best, bv => if best < f v then clsF f m (v + 1) (f v) v else clsF f m (v + 1) best bv
/-- the greatest, or the least -/
def opF (tn : Bool) (f : Nat → Nat) : Nat → Nat → Nat → Nat
  | 0, _, best => best
  | m + 1, v, best => opF tn f m (v + 1) (if (if tn then best < f v else f v < best) then f v else best)
def op (nv : Nat) (tn : Bool) (f : Nat → Nat) : Nat := opF tn f (nv - 1) 1 (f 0)
theorem clsF_op (f : Nat → Nat) : ∀ (m v best bv : Nat), (clsF f m v best bv).1 = opF true f m v best := by
  intro m
  induction m with
  | zero => intro v best bv; rfl
  | succ m ih =>
    intro v best bv
    rw [clsF, opF]
    by_cases h : best < f v
    · rw [if_pos h, ih, if_pos (by rw [if_pos rfl]; exact h)]
    · rw [if_neg h, ih, if_neg (by rw [if_pos rfl]; exact h)]
theorem clsF_op2 {f g : Nat → Nat} (hg : ∀ v, g v ≤ 2) (hf : ∀ v, f v = 2 - g v) : ∀ (m v best bv : Nat), best ≤ 2 → (clsF f m v (2 - best) bv).1 = 2 - opF false g m v best := by
  intro m
  induction m with
  | zero => intro v best bv _; rfl
  | succ m ih =>
    intro v best bv hb
    have := hg v
    rw [clsF, opF, hf v]
    by_cases h : g v < best
    · rw [if_pos (by omega), ih _ _ _ (hg v), if_pos (by rw [if_neg (by decide)]; exact h)]
    · rw [if_neg (by omega), ih _ _ _ hb, if_neg (by rw [if_neg (by decide)]; exact h)]
theorem opF_le {tn : Bool} {f : Nat → Nat} (hf : ∀ v, f v ≤ 2) : ∀ (m v best : Nat), best ≤ 2 → opF tn f m v best ≤ 2 := by
  intro m
  induction m with
  | zero => intro v best h; exact h
  | succ m ih =>
    intro v best h
    rw [opF]
    refine ih _ _ ?_
    have := hf v
    cases tn
    · show (if f v < best then f v else best) ≤ 2
      split <;> omega
    · show (if best < f v then f v else best) ≤ 2
      split <;> omega
theorem clsF_top {f : Nat → Nat} (hf : ∀ v, f v ≤ 2) : ∀ (m v best bv : Nat), 2 ≤ best → clsF f m v best bv = (best, bv) := by
  intro m
  induction m with
  | zero => intro v best bv h; rfl
  | succ m ih =>
    intro v best bv h
    have := hf v
    rw [clsF, if_neg (by omega), ih _ _ _ h]
theorem clsF_lt {f : Nat → Nat} : ∀ (m v best bv : Nat), bv < v → (clsF f m v best bv).2 < v + m := by
  intro m
  induction m with
  | zero => intro v best bv h; exact h
  | succ m ih =>
    intro v best bv h
    rw [clsF]
    split
    · have := ih (v + 1) (f v) v (by omega); omega
    · have := ih (v + 1) best bv (by omega); omega
theorem clsF_le {f : Nat → Nat} (hf : ∀ v, f v ≤ 2) (m v best bv : Nat) (h : best ≤ 2) : (clsF f m v best bv).1 ≤ 2 := by
  rw [clsF_op]
  exact opF_le hf m v best h
section
variable (n T B Y G nv : Nat) (bt : Nat → Nat) (a b : Nat)
/-- what the first one comes to; tn: it is his turn -/
def gv : Nat → Bool → (Nat × Nat × Nat × Bool) → Nat
  | 0, _, _ => 1
  | m + 1, tn, st => if canB st.1 B then op nv tn (fun v => if (cnt n T B Y G st (bt v)).1 = b then 2 else if (cnt n T B Y G st (bt v)).1 = a then 0 else gv m (!tn) (cnt n T B Y G st (bt v)).2) else 1
end
section
variable {n T B Y G nv : Nat} {bt : Nat → Nat} {a b : Nat}
theorem gv_le : ∀ (m : Nat) (tn : Bool) (st : Nat × Nat × Nat × Bool), gv n T B Y G nv bt a b m tn st ≤ 2 := by
  intro m
  induction m with
  | zero => intro tn st; show 1 ≤ 2; omega
  | succ m ih =>
    intro tn st
    rw [gv]
    have hf : ∀ v, (if (cnt n T B Y G st (bt v)).1 = b then 2 else if (cnt n T B Y G st (bt v)).1 = a then 0 else gv n T B Y G nv bt a b m (!tn) (cnt n T B Y G st (bt v)).2) ≤ 2 := by
      intro v
      split
      · omega
      · split
        · omega
        · exact ih _ _
    split
    · exact opF_le hf _ _ _ (hf 0)
    · omega
/-- what he who says comes to by a verse -/
def cm (n T B Y G : Nat) (bt : Nat → Nat) (own oth : Nat) (w : (Nat × Nat × Nat × Bool) → Nat) (st : Nat × Nat × Nat × Bool) (v : Nat) : Nat := if (cnt n T B Y G st (bt v)).1 = own then 0 else if (cnt n T B Y G st (bt v)).1 = oth then 2 else 2 - w (cnt n T B Y G st (bt v)).2
theorem cm_le {own oth : Nat} {w : (Nat × Nat × Nat × Bool) → Nat} {st : Nat × Nat × Nat × Bool} (v : Nat) : cm n T B Y G bt own oth w st v ≤ 2 := by
  unfold cm
  split
  · omega
  · split <;> omega
theorem FQ.up15 (V : Nat → Nat → Int32) (i : Nat) (x : Int32) : FQ V (up2 V 15 i x) := fun a h _ _ => setc_ne V _ h
theorem FQ.st16 (V : Nat → Nat → Int32) (c : Nat → Int32) : FQ V (setc V 16 c) := fun a _ h _ => setc_ne V _ h
theorem nI_nm1 {k : Nat} (h : k < 2 ^ 31) : ¬ nI k ≤ (-1 : Int32) := by
  rw [Int32.le_iff_toInt_le, nI_toInt h]
  have h2 : (-1 : Int32).toInt = -1 := by decide
  omega
/-- what a search below must do -/
def RcOk (n T B Y G nv : Nat) (bt : Nat → Nat) (rc : (Nat → Nat → Int32) → (Nat → Int64) → Int32 → Int32 → Int32 → Option (Int32 × (Nat → Nat → Int32) × (Nat → Int64))) (x1 x2 x3 : Int32) (w : (Nat × Nat × Nat × Bool) → Nat) : Prop :=
  ∀ (V : Nat → Nat → Int32) (L : Nat → Int64) (st : Nat × Nat × Nat × Bool), CiS (V 16) n T B Y G st → Sok n st → V 5 2 = nI nv → (∀ v, v < nv → V 7 v = nI (bt v)) → ∃ W, rc V L x1 x2 x3 = some (nI (w st), W, L) ∧ FQ V W ∧ CiS (W 16) n T B Y G st ∧ w st ≤ 2
theorem worth_step {rc : (Nat → Nat → Int32) → (Nat → Int64) → Int32 → Int32 → Int32 → Option (Int32 × (Nat → Nat → Int32) × (Nat → Int64))} {own oth : Nat} {x3 : Int32} {w : (Nat × Nat × Nat × Bool) → Nat} {st : Nat × Nat × Nat × Bool} (hn : n ≤ 8) (hs : Sok n st) (hc : canB st.1 B = true) (hown : own < n) (hoth : oth < n) (hnv : nv ≤ 3) (hbt : ∀ v, v < nv → 1 ≤ bt v ∧ bt v ≤ 99) (hrc : RcOk n T B Y G nv bt rc (nI oth) (nI own) (x3 + 1) w) {V : Nat → Nat → Int32} {L : Nat → Int64} (hC : CiS (V 16) n T B Y G st) (h5 : V 5 2 = nI nv) (h7 : ∀ v, v < nv → V 7 v = nI (bt v)) {v : Nat} (hv : v < nv) {x5 : Int32} (hx5 : ¬ (2 : Int32) ≤ x5) :
    ∃ W, FQ V W ∧ CiS (W 16) n T B Y G st ∧ ∀ g x6, f_X1_worth_41 rc (nI own) (nI oth) x3 (nI (poseN st)) (g + 1) V L x5 x6 (nI v) = if nI (cm n T B Y G bt own oth w st v) ≤ x5 then f_X1_worth_41 rc (nI own) (nI oth) x3 (nI (poseN st)) g W L x5 x6 (nI (v + 1)) else f_X1_worth_41 rc (nI own) (nI oth) x3 (nI (poseN st)) g W L (nI (cm n T B Y G bt own oth w st v)) (nI v) (nI (v + 1)) := by
  obtain ⟨c2, p1, p2⟩ := putOut_eq hC (show n ≤ 9 by omega) hs (hbt v hv).1 (hbt v hv).2 hc
  have hok := cnt_ok (T := T) (B := B) (Y := Y) (G := G) (beats := bt v) hs
  have hI := lt256 hn hs.1
  have hS := lt256 hn hs.2.1
  have hf := hs.2.2
  have head : ∀ g x6, f_X1_worth_41 rc (nI own) (nI oth) x3 (nI (poseN st)) (g + 1) V L x5 x6 (nI v) = (if nI (cnt n T B Y G st (bt v)).1 = nI own then (f_X1_worth_121 rc (f_X1_worth_41 rc (nI own) (nI oth) x3 (nI (poseN st)) g) (setc V 16 c2) L (nI own) (nI oth) x3 (nI (poseN st)) x5 x6 (nI v) (0 : Int32)) else (if nI (cnt n T B Y G st (bt v)).1 = nI oth then (f_X1_worth_121 rc (f_X1_worth_41 rc (nI own) (nI oth) x3 (nI (poseN st)) g) (setc V 16 c2) L (nI own) (nI oth) x3 (nI (poseN st)) x5 x6 (nI v) (2 : Int32)) else (bd3 (rc (setc V 16 c2) L (nI oth) (nI own) (x3 + (1 : Int32))) fun r_4 V_5 L_6 => f_X1_worth_121 rc (f_X1_worth_41 rc (nI own) (nI oth) x3 (nI (poseN st)) g) V_5 L_6 (nI own) (nI oth) x3 (nI (poseN st)) x5 x6 (nI v) ((2 : Int32) - r_4)))) := by
    intro g x6
    rw [f_X1_worth_41, if_neg (show ¬ (3 : Int32) ≤ nI v from nI_ge (b := 3) (show v < 3 by omega) (by decide)), hasVerse_eq h5 hnv, ib_nI hv (by omega), if_neg (show ¬ bz true = 0 by decide), if_neg hx5, if_pos (ib_nI (show v < 3 by omega) (by decide)), nI_clamp (by omega), h7 v hv, p1, bd2_s, bnd_e]
  have tail : ∀ (U : Nat → Nat → Int32) (s0 : Nat × Nat × Nat × Bool) (z : Nat), CiS (U 16) n T B Y G s0 → FQ V U → z = cm n T B Y G bt own oth w st v → ∃ W, FQ V W ∧ CiS (W 16) n T B Y G st ∧ ∀ g x6, f_X1_worth_121 rc (f_X1_worth_41 rc (nI own) (nI oth) x3 (nI (poseN st)) g) U L (nI own) (nI oth) x3 (nI (poseN st)) x5 x6 (nI v) (nI z) = if nI (cm n T B Y G bt own oth w st v) ≤ x5 then f_X1_worth_41 rc (nI own) (nI oth) x3 (nI (poseN st)) g W L x5 x6 (nI (v + 1)) else f_X1_worth_41 rc (nI own) (nI oth) x3 (nI (poseN st)) g W L (nI (cm n T B Y G bt own oth w st v)) (nI v) (nI (v + 1)) := by
    intro U s0 z hU hF hz
    refine ⟨setc U 16 (f_X0_takePose (U 16) (nI (poseN st))), hF.tr (FQ.st16 U _), ?_, fun g x6 => ?_⟩
    · rw [setc_at]
      exact takePose_eq hU (by omega) (by omega) (by omega)
    · unfold f_X1_worth_121
      rw [bnd_e, hz, nI_1]
  by_cases h1 : (cnt n T B Y G st (bt v)).1 = own
  · obtain ⟨W, w1, w2, w3⟩ := tail (setc V 16 c2) _ 0 p2 (FQ.st16 V c2) (by unfold cm; rw [if_pos h1])
    exact ⟨W, w1, w2, fun g x6 => by rw [head, if_pos (by rw [h1])]; exact w3 g x6⟩
  · have h1' : ¬ nI (cnt n T B Y G st (bt v)).1 = nI own := fun e => h1 ((nI_eq (by omega) (by omega)).mp e)
    by_cases h2 : (cnt n T B Y G st (bt v)).1 = oth
    · obtain ⟨W, w1, w2, w3⟩ := tail (setc V 16 c2) _ 2 p2 (FQ.st16 V c2) (by unfold cm; rw [if_neg h1, if_pos h2])
      exact ⟨W, w1, w2, fun g x6 => by rw [head, if_neg h1', if_pos (by rw [h2])]; exact w3 g x6⟩
    · have h2' : ¬ nI (cnt n T B Y G st (bt v)).1 = nI oth := fun e => h2 ((nI_eq (by omega) (by omega)).mp e)
      obtain ⟨U, u1, u2, u3, u4⟩ := hrc (setc V 16 c2) L _ p2 hok.2 h5 h7
      obtain ⟨W, w1, w2, w3⟩ := tail U _ (2 - w (cnt n T B Y G st (bt v)).2) u3 ((FQ.st16 V c2).tr u2) (by unfold cm; rw [if_neg h1, if_neg h2])
      refine ⟨W, w1, w2, fun g x6 => ?_⟩
      rw [head, if_neg h1', if_neg h2', u1, bd3_s, show (2 : Int32) - nI (w (cnt n T B Y G st (bt v)).2) = nI (2 - w (cnt n T B Y G st (bt v)).2) from pk_sub (a := 2) u4]
      exact w3 g x6
theorem worth_loop {rc : (Nat → Nat → Int32) → (Nat → Int64) → Int32 → Int32 → Int32 → Option (Int32 × (Nat → Nat → Int32) × (Nat → Int64))} {own oth : Nat} {x3 : Int32} {w : (Nat × Nat × Nat × Bool) → Nat} {st : Nat × Nat × Nat × Bool} (hn : n ≤ 8) (hs : Sok n st) (hc : canB st.1 B = true) (hown : own < n) (hoth : oth < n) (hnv : nv ≤ 3) (hbt : ∀ v, v < nv → 1 ≤ bt v ∧ bt v ≤ 99) (hrc : RcOk n T B Y G nv bt rc (nI oth) (nI own) (x3 + 1) w) {L : Nat → Int64} :
    ∀ (j fuel v best bv : Nat) (V : Nat → Nat → Int32), CiS (V 16) n T B Y G st → V 5 2 = nI nv → (∀ v, v < nv → V 7 v = nI (bt v)) → v + j = nv → j < fuel → best ≤ 2 →
      ∃ W, f_X1_worth_41 rc (nI own) (nI oth) x3 (nI (poseN st)) fuel V L (nI best) (nI bv) (nI v) = some (nI (clsF (cm n T B Y G bt own oth w st) j v best bv).1, W, L) ∧ W 15 7 = nI (clsF (cm n T B Y G bt own oth w st) j v best bv).2 ∧ FQ V W ∧ CiS (W 16) n T B Y G st := by
  intro j
  induction j with
  | zero =>
    intro fuel v best bv V hC h5 h7 hv hf hb
    obtain ⟨g, rfl⟩ : ∃ g, fuel = g + 1 := ⟨fuel - 1, by omega⟩
    refine ⟨up2 V 15 7 (nI bv), ?_, rfl, FQ.up15 V _ _, hC⟩
    rw [f_X1_worth_41]
    by_cases h3 : (3 : Int32) ≤ nI v
    · rw [if_pos h3]
      rfl
    · have hib : ib (nI v) nv = false := by
        rw [ib_toInt, nI_toInt (show v < 2 ^ 31 by omega)]
        exact decide_eq_false (by omega)
      rw [if_neg h3, hasVerse_eq h5 hnv, hib, if_pos (show bz false = 0 from rfl)]
      rfl
  | succ j ih =>
    intro fuel v best bv V hC h5 h7 hv hf hb
    obtain ⟨g, rfl⟩ : ∃ g, fuel = g + 1 := ⟨fuel - 1, by omega⟩
    by_cases h2 : 2 ≤ best
    · refine ⟨up2 V 15 7 (nI bv), ?_, ?_, FQ.up15 V _ _, hC⟩
      · rw [f_X1_worth_41, if_neg (show ¬ (3 : Int32) ≤ nI v from nI_ge (b := 3) (show v < 3 by omega) (by decide)), hasVerse_eq h5 hnv, ib_nI (show v < nv by omega) (by omega), if_neg (show ¬ bz true = 0 by decide), if_pos (show (2 : Int32) ≤ nI best from nI_le (a := 2) h2 (by omega)), clsF_top (fun v => cm_le v) _ _ _ _ h2]
        rfl
      · rw [clsF_top (fun v => cm_le v) _ _ _ _ h2]
        rfl
    · obtain ⟨U, u1, u2, u3⟩ := worth_step (L := L) hn hs hc hown hoth hnv hbt hrc hC h5 h7 (show v < nv by omega) (show ¬ (2 : Int32) ≤ nI best from nI_ge (b := 2) (by omega) (by decide))
      have hcm := cm_le (n := n) (T := T) (B := B) (Y := Y) (G := G) (bt := bt) (own := own) (oth := oth) (w := w) (st := st) v
      have h5' : U 5 2 = nI nv := by rw [u1 5 (by decide) (by decide) (by decide)]; exact h5
      have h7' : ∀ v, v < nv → U 7 v = nI (bt v) := by rw [u1 7 (by decide) (by decide) (by decide)]; exact h7
      rw [u3 g (nI bv), clsF]
      by_cases hlt : best < cm n T B Y G bt own oth w st v
      · obtain ⟨W, w1, w2, w3, w4⟩ := ih g (v + 1) (cm n T B Y G bt own oth w st v) v U u2 h5' h7' (by omega) (by omega) hcm
        rw [if_neg (nI_ge hlt (by omega)), if_pos hlt]
        exact ⟨W, w1, w2, u1.tr w3, w4⟩
      · obtain ⟨W, w1, w2, w3, w4⟩ := ih g (v + 1) best bv U u2 h5' h7' (by omega) (by omega) hb
        rw [if_pos (nI_le (by omega) (by omega)), if_neg hlt]
        exact ⟨W, w1, w2, u1.tr w3, w4⟩
/-- the whole search at one place -/
theorem worth_node {rc : (Nat → Nat → Int32) → (Nat → Int64) → Int32 → Int32 → Int32 → Option (Int32 × (Nat → Nat → Int32) × (Nat → Int64))} {own oth d : Nat} {w : (Nat × Nat × Nat × Bool) → Nat} {st : Nat × Nat × Nat × Bool} (hn : n ≤ 8) (hs : Sok n st) (hown : own < n) (hoth : oth < n) (hnv1 : 1 ≤ nv) (hnv : nv ≤ 3) (hbt : ∀ v, v < nv → 1 ≤ bt v ∧ bt v ≤ 99) (hd : d < 7) (hrc : RcOk n T B Y G nv bt rc (nI oth) (nI own) (nI (d + 1)) w) {V : Nat → Nat → Int32} {L : Nat → Int64} (hC : CiS (V 16) n T B Y G st) (h5 : V 5 2 = nI nv) (h7 : ∀ v, v < nv → V 7 v = nI (bt v)) :
    ∃ W, f_X1_worth_e rc V L (nI own) (nI oth) (nI d) = some (nI (if canB st.1 B then (clsF (cm n T B Y G bt own oth w st) (nv - 1) 1 (cm n T B Y G bt own oth w st 0) 0).1 else 1), W, L) ∧ W 15 7 = (if canB st.1 B then nI (clsF (cm n T B Y G bt own oth w st) (nv - 1) 1 (cm n T B Y G bt own oth w st 0) 0).2 else -1) ∧ FQ V W ∧ CiS (W 16) n T B Y G st := by
  have hI := lt256 hn hs.1
  have hS := lt256 hn hs.2.1
  have hf := hs.2.2
  unfold f_X1_worth_e
  rw [if_neg (show ¬ (7 : Int32) ≤ nI d from nI_ge (b := 7) hd (by decide)), canCount_eq hC.2.2.1 hC.2.2.2.2.2.1 (show n ≤ 9 by omega) hs.1]
  cases hc : canB st.1 B with
  | false =>
    rw [if_pos (show bz false = 0 from rfl)]
    exact ⟨up2 V 15 7 (-1), rfl, rfl, FQ.up15 V _ _, hC⟩
  | true =>
    rw [if_neg (show ¬ bz true = 0 by decide), pose_eq hC (by omega) (by omega) (by omega), if_pos rfl, if_pos rfl]
    rw [← nI_1] at hrc
    obtain ⟨U, u1, u2, u3⟩ := worth_step (L := L) hn hs hc hown hoth hnv hbt hrc hC h5 h7 (show 0 < nv by omega) (show ¬ (2 : Int32) ≤ (-1 : Int32) by decide)
    have h5' : U 5 2 = nI nv := by rw [u1 5 (by decide) (by decide) (by decide)]; exact h5
    have h7' : ∀ v, v < nv → U 7 v = nI (bt v) := by rw [u1 7 (by decide) (by decide) (by decide)]; exact h7
    have hcm := cm_le (n := n) (T := T) (B := B) (Y := Y) (G := G) (bt := bt) (own := own) (oth := oth) (w := w) (st := st) 0
    obtain ⟨W, w1, w2, w3, w4⟩ := worth_loop (L := L) hn hs hc hown hoth hnv hbt hrc (nv - 1) 19999 1 (cm n T B Y G bt own oth w st 0) 0 U u2 h5' h7' (by omega) (by omega) hcm
    refine ⟨W, ?_, w2, u1.tr w3, w4⟩
    have u3' := u3 19999 (-1)
    rw [if_neg (nI_nm1 (by omega))] at u3'
    rw [← nI_0, show (20000 : Nat) = 19999 + 1 from rfl, u3']
    exact w1
theorem worth_eq (hn : n ≤ 8) (ha : a < n) (hb : b < n) (hab : a ≠ b) (hnv1 : 1 ≤ nv) (hnv : nv ≤ 3) (hbt : ∀ v, v < nv → 1 ≤ bt v ∧ bt v ≤ 99) :
    ∀ (m d fuel : Nat) (tn : Bool), d + m = 7 → m < fuel → RcOk n T B Y G nv bt (f_X1_worth fuel) (nI (if tn then a else b)) (nI (if tn then b else a)) (nI d) (fun st => if tn then gv n T B Y G nv bt a b m tn st else 2 - gv n T B Y G nv bt a b m tn st) := by
  intro m
  induction m with
  | zero =>
    intro d fuel tn hd hf V L st hC hs h5 h7
    obtain ⟨g, rfl⟩ : ∃ g, fuel = g + 1 := ⟨fuel - 1, by omega⟩
    have hd7 : d = 7 := by omega
    subst hd7
    refine ⟨up2 V 15 7 (-1), ?_, FQ.up15 V _ _, hC, ?_⟩
    · rw [f_X1_worth]
      unfold f_X1_worth_e
      rw [if_pos (by decide)]
      cases tn <;> rfl
    · cases tn
      · show 2 - 1 ≤ 2
        omega
      · show 1 ≤ 2
        omega
  | succ m ih =>
    intro d fuel tn hd hf V L st hC hs h5 h7
    obtain ⟨g, rfl⟩ : ∃ g, fuel = g + 1 := ⟨fuel - 1, by omega⟩
    have hrc := ih (d + 1) g (!tn) (by omega) (by omega)
    have hle := gv_le (n := n) (T := T) (B := B) (Y := Y) (G := G) (nv := nv) (bt := bt) (a := a) (b := b)
    rw [f_X1_worth]
    cases tn with
    | true =>
      have hrc' : RcOk n T B Y G nv bt (f_X1_worth g) (nI b) (nI a) (nI (d + 1)) (fun st => 2 - gv n T B Y G nv bt a b m false st) := hrc
      obtain ⟨W, w1, -, w3, w4⟩ := worth_node (L := L) (own := a) (oth := b) hn hs ha hb hnv1 hnv hbt (show d < 7 by omega) hrc' hC h5 h7
      have hcm : ∀ v, cm n T B Y G bt a b (fun st => 2 - gv n T B Y G nv bt a b m false st) st v = (if (cnt n T B Y G st (bt v)).1 = b then 2 else if (cnt n T B Y G st (bt v)).1 = a then 0 else gv n T B Y G nv bt a b m false (cnt n T B Y G st (bt v)).2) := by
        intro v
        unfold cm
        have := hle m false (cnt n T B Y G st (bt v)).2
        by_cases h1 : (cnt n T B Y G st (bt v)).1 = a
        · rw [if_pos h1, if_neg (by omega), if_pos h1]
        · rw [if_neg h1]
          by_cases h2 : (cnt n T B Y G st (bt v)).1 = b
          · rw [if_pos h2, if_pos h2]
          · rw [if_neg h2, if_neg h2, if_neg h1]
            show 2 - (2 - gv n T B Y G nv bt a b m false (cnt n T B Y G st (bt v)).2) = _
            omega
      have hval : (if canB st.1 B then (clsF (cm n T B Y G bt a b (fun st => 2 - gv n T B Y G nv bt a b m false st) st) (nv - 1) 1 (cm n T B Y G bt a b (fun st => 2 - gv n T B Y G nv bt a b m false st) st 0) 0).1 else 1) = gv n T B Y G nv bt a b (m + 1) true st := by
        rw [gv, clsF_op]
        unfold op
        rw [show cm n T B Y G bt a b (fun st => 2 - gv n T B Y G nv bt a b m false st) st = _ from funext hcm]
        rfl
      rw [hval] at w1
      exact ⟨W, w1, w3, w4, hle _ _ _⟩
    | false =>
      have hrc' : RcOk n T B Y G nv bt (f_X1_worth g) (nI a) (nI b) (nI (d + 1)) (fun st => gv n T B Y G nv bt a b m true st) := hrc
      obtain ⟨W, w1, -, w3, w4⟩ := worth_node (L := L) (own := b) (oth := a) hn hs hb ha hnv1 hnv hbt (show d < 7 by omega) hrc' hC h5 h7
      have hg2 : ∀ v, (if (cnt n T B Y G st (bt v)).1 = b then 2 else if (cnt n T B Y G st (bt v)).1 = a then 0 else gv n T B Y G nv bt a b m true (cnt n T B Y G st (bt v)).2) ≤ 2 := by
        intro v
        split
        · omega
        · split
          · omega
          · exact hle _ _ _
      have hcm : ∀ v, cm n T B Y G bt b a (fun st => gv n T B Y G nv bt a b m true st) st v = 2 - (if (cnt n T B Y G st (bt v)).1 = b then 2 else if (cnt n T B Y G st (bt v)).1 = a then 0 else gv n T B Y G nv bt a b m true (cnt n T B Y G st (bt v)).2) := by
        intro v
        unfold cm
        by_cases h1 : (cnt n T B Y G st (bt v)).1 = b
        · rw [if_pos h1, if_pos h1]
        · rw [if_neg h1, if_neg h1]
          by_cases h2 : (cnt n T B Y G st (bt v)).1 = a
          · rw [if_pos h2, if_pos h2]
          · rw [if_neg h2, if_neg h2]
      have hval : (if canB st.1 B then (clsF (cm n T B Y G bt b a (fun st => gv n T B Y G nv bt a b m true st) st) (nv - 1) 1 (cm n T B Y G bt b a (fun st => gv n T B Y G nv bt a b m true st) st 0) 0).1 else 1) = 2 - gv n T B Y G nv bt a b (m + 1) false st := by
        rw [gv]
        cases canB st.1 B with
        | false => rfl
        | true =>
          rw [if_pos rfl, if_pos rfl, hcm 0, clsF_op2 hg2 hcm _ _ _ _ (hg2 0)]
          rfl
      rw [hval] at w1
      refine ⟨W, w1, w3, w4, ?_⟩
      show 2 - gv n T B Y G nv bt a b (m + 1) false st ≤ 2
      omega
end
