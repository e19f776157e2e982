/-! reading THE PAGE -/
theorem bd1_s {α β : Type} (a : β) (k : β → Option α) : bd1 (some a) k = k a := rfl
theorem bd2_s {α β γ : Type} (a : β) (b : γ) (k : β → γ → Option α) : bd2 (some (a, b)) k = k a b := rfl
theorem bd3_s {α β γ δ : Type} (a : β) (b : γ) (c : δ) (k : β → γ → δ → Option α) : bd3 (some (a, b, c)) k = k a b c := rfl
def kdN (x : Nat) : Nat := if x = 99 then 0 else if x = 116 then 1 else if x = 98 then 2 else if x = 115 then 3 else if x = 107 then 4 else 9
def bvN (q : Nat → Nat) (j : Nat) : Nat := 10 * (q (3 * j) - 48) + (q (3 * j + 1) - 48)
def goodN (q : Nat → Nat) (j : Nat) : Prop := (48 ≤ q (3 * j) ∧ q (3 * j) ≤ 57) ∧ (48 ≤ q (3 * j + 1) ∧ q (3 * j + 1) ≤ 57) ∧ 1 ≤ bvN q j
def PC (V : Nat → Nat → Int32) (s : Nat) (q : Nat → Nat) (due v c : Nat) : Prop := (V 1 1 = nI s ∧ V 1 2 = nI due ∧ V 1 5 = nI v ∧ V 1 7 = nI c) ∧ ∀ i, i < s → V 2 i = nI (q i)
def BV (V : Nat → Nat → Int32) (q : Nat → Nat) (v : Nat) : Prop := ∀ j, j < v → V 3 j = nI (bvN q j) ∧ goodN q j
def KVd (V : Nat → Nat → Int32) (q : Nat → Nat) (v c : Nat) : Prop := ∀ j, j < c → V 4 j = nI (kdN (q (3 * v + j))) ∧ kdN (q (3 * v + j)) < 5
def PR (W : Nat → Nat → Int32) (s : Nat) (q : Nat → Nat) (v c : Nat) : Prop := (W 0 13 = nI s ∧ W 0 15 = 0 ∧ W 0 16 = nI v ∧ W 0 17 = nI c) ∧ ∀ i, i < s → W 14 i = nI (q i)
/-- what reading may change -/
def FP (V W : Nat → Nat → Int32) : Prop := W 1 1 = V 1 1 ∧ ∀ a, a ≠ 1 → a ≠ 3 → a ≠ 4 → W a = V a
def FR (V W : Nat → Nat → Int32) : Prop := (∀ b, b ≠ 15 → b ≠ 16 → b ≠ 17 → W 0 b = V 0 b) ∧ ∀ a, a ≠ 0 → W a = V a
theorem FP.rf (V : Nat → Nat → Int32) : FP V V := ⟨rfl, fun _ _ _ _ => rfl⟩
theorem FP.tr {V W U : Nat → Nat → Int32} (h : FP V W) (g : FP W U) : FP V U := ⟨g.1.trans h.1, fun a h1 h2 h3 => (g.2 a h1 h2 h3).trans (h.2 a h1 h2 h3)⟩
theorem FP.fc {V W : Nat → Nat → Int32} (h : FP V W) : FC V W := ⟨h.1, fun a ha => h.2 a (by omega) (by omega) (by omega)⟩
theorem FR.rf (V : Nat → Nat → Int32) : FR V V := ⟨fun _ _ _ _ => rfl, fun _ _ => rfl⟩
theorem FR.tr {V W U : Nat → Nat → Int32} (h : FR V W) (g : FR W U) : FR V U := ⟨fun b h1 h2 h3 => (g.1 b h1 h2 h3).trans (h.1 b h1 h2 h3), fun a ha => (g.2 a ha).trans (h.2 a ha)⟩
theorem FR.rF {V W : Nat → Nat → Int32} (h : FR V W) : RF V W := ⟨fun b hb => h.1 b (by omega) (by omega) (by omega), fun a ha _ => h.2 a (by omega)⟩
theorem FR.up (V : Nat → Nat → Int32) {k : Nat} (x : Int32) (hk : k = 15 ∨ k = 16 ∨ k = 17) : FR V (up2 V 0 k x) := by
  refine ⟨fun b h1 h2 h3 => ?_, fun a ha => setc_ne V _ ha⟩
  rw [up2_at, if_pos rfl, if_neg (by omega)]
/-- how reading ends -/
def Dn (s : Nat) (q : Nat → Nat) (r : Nat) (V W : Nat → Nat → Int32) : Prop := ∃ c, V 1 7 = nI c ∧ c ≤ 8 ∧ ((¬ (r = s ∧ 2 ≤ c) ∧ W 0 15 = 0) ∨ (r = s ∧ 2 ≤ c ∧ W 0 15 = 1 ∧ ∃ v, 1 ≤ v ∧ v ≤ 3 ∧ s = 3 * v + c ∧ V 1 5 = nI v ∧ W 0 16 = nI v ∧ W 0 17 = nI c ∧ BV V q v ∧ KVd V q v c))
def atN (q : Nat → Nat) (s k : Nat) : Nat := if k < s then q k else 0
theorem at_eq {W : Nat → Nat → Int32} {L : Nat → Int64} {s : Nat} {q : Nat → Nat} (h13 : W 0 13 = nI s) (h14 : ∀ i, i < s → W 14 i = nI (q i)) (hs : s ≤ 20) {k : Nat} (hk : k < 100) : f_X5_at W L (nI k) = some (nI (atN q s k)) := by
  unfold f_X5_at atN
  rw [h13]
  by_cases h : k < s
  · rw [if_neg (nI_ge h (by omega)), if_pos (ib_nI (show k < 20 by omega) (by decide)), nI_clamp (by omega), h14 k h, if_pos h]
  · rw [if_pos (nI_le (by omega) (by omega)), if_neg h]
    rfl
theorem fig_all : ∀ a, a < 127 → ∀ l, l < 2 → f_X5_within (nI a - 48) (nI l) 9 = bz (decide (48 + l ≤ a ∧ a ≤ 57)) := by decide +kernel
theorem kind5 : ∀ a, a < 127 → f_X5_kindBy (nI a) = if kdN a < 5 then nI (kdN a) else -1 := by decide +kernel
theorem kind4 : ∀ a, a < 127 → f_indexOf (i2c (nI a)) = if kdN a < 5 then nI (kdN a) else -1 := by decide +kernel
theorem atN_lt {q : Nat → Nat} {s k : Nat} (hq : ∀ i, i < s → 32 ≤ q i ∧ q i ≤ 126) : atN q s k < 127 := by
  unfold atN
  split
  · have := (hq k (by assumption)).2
    omega
  · omega
theorem fig_eq {W : Nat → Nat → Int32} {L : Nat → Int64} {s : Nat} {q : Nat → Nat} (h13 : W 0 13 = nI s) (h14 : ∀ i, i < s → W 14 i = nI (q i)) (hs : s ≤ 20) (hq : ∀ i, i < s → 32 ≤ q i ∧ q i ≤ 126) {k l : Nat} (hk : k < 100) (hl : l < 2) : f_X5_isFigure W L (nI k) (nI l) = some (bz (decide (48 + l ≤ atN q s k ∧ atN q s k ≤ 57))) := by
  unfold f_X5_isFigure
  rw [at_eq h13 h14 hs hk]
  simp only [bd1]
  rw [fig_all _ (atN_lt hq) l hl]
theorem bd3_id {α β γ : Type} (o : Option (α × β × γ)) : (bd3 o fun a b c => some (a, b, c)) = o := by
  cases o with
  | none => rfl
  | some p => obtain ⟨a, b, c⟩ := p; rfl
/-- one verse read by the reference -/
theorem read_step {W : Nat → Nat → Int32} {L : Nat → Int64} {s v g : Nat} {q : Nat → Nat} (h : PR W s q v 0) (hs : s ≤ 20) (hq : ∀ i, i < s → 32 ≤ q i ∧ q i ≤ 126) (hv : v < 3) {k : Nat} (hk : k < 60) :
    f_X5_read_17 (g + 1) W L (nI k) = if 48 ≤ atN q s k ∧ atN q s k ≤ 57 then (if (if atN q s k = 48 then 49 else 48) ≤ atN q s (k + 1) ∧ atN q s (k + 1) ≤ 57 then (if atN q s (k + 2) = 59 then f_X5_readChildren (up2 W 0 16 (nI (v + 1))) L (nI (k + 3)) else if v + 1 = 3 then some (nI (k + 2), up2 W 0 16 (nI (v + 1)), L) else if atN q s (k + 2) = 44 then f_X5_read_17 g (up2 W 0 16 (nI (v + 1))) L (nI (k + 3)) else some (nI (k + 2), up2 W 0 16 (nI (v + 1)), L)) else some (nI (k + 1), W, L)) else some (nI k, W, L) := by
  obtain ⟨⟨h13, h15, h16, h17⟩, h14⟩ := h
  have u13 : up2 W 0 16 (nI (v + 1)) 0 13 = nI s := h13
  have u14 : ∀ i, i < s → up2 W 0 16 (nI (v + 1)) 14 i = nI (q i) := h14
  have u16 : up2 W 0 16 (nI (v + 1)) 0 16 = nI (v + 1) := rfl
  have h2 : nI k + 2 = nI (k + 2) := nI_add k 2
  have h3 : nI (k + 2) + (1 : Int32) = nI (k + 3) := nI_1 (k + 2)
  have a0 : atN q s k < 127 := atN_lt hq
  have a2 : atN q s (k + 2) < 127 := atN_lt hq
  have f0 := fig_eq (L := L) h13 h14 hs hq (show k < 100 by omega) (show 0 < 2 by omega)
  have f10 := fig_eq (L := L) h13 h14 hs hq (show k + 1 < 100 by omega) (show 0 < 2 by omega)
  have f11 := fig_eq (L := L) h13 h14 hs hq (show k + 1 < 100 by omega) (show 1 < 2 by omega)
  have g0 := at_eq (L := L) h13 h14 hs (show k < 100 by omega)
  have g2 := at_eq (L := L) u13 u14 hs (show k + 2 < 100 by omega)
  rw [nI_0] at f0 f10
  rw [show nI 1 = 1 by decide] at f11
  have tail : ∀ x : Option (Int32 × (Nat → Nat → Int32) × (Nat → Int64)), x = (bnd (up2 W 0 16 (nI v + 1)) fun V_11 => bd1 (f_X5_at V_11 L (nI k + 2)) fun r_12 => if r_12 = (59 : Int32) then (bd3 (f_X5_readChildren V_11 L ((nI k + 2) + (1 : Int32))) fun r_14 V_15 L_16 => some (r_14, V_15, L_16)) else (if (V_11 0 16) = (3 : Int32) then (some (nI k + 2, V_11, L)) else (bd1 (f_X5_at V_11 L (nI k + 2)) fun r_13 => if r_13 = (44 : Int32) then (f_X5_read_17 g V_11 L ((nI k + 2) + 1)) else (some (nI k + 2, V_11, L))))) → x = (if atN q s (k + 2) = 59 then f_X5_readChildren (up2 W 0 16 (nI (v + 1))) L (nI (k + 3)) else if v + 1 = 3 then some (nI (k + 2), up2 W 0 16 (nI (v + 1)), L) else if atN q s (k + 2) = 44 then f_X5_read_17 g (up2 W 0 16 (nI (v + 1))) L (nI (k + 3)) else some (nI (k + 2), up2 W 0 16 (nI (v + 1)), L)) := by
    intro x hx
    rw [hx, nI_1, h2]
    simp only [bnd]
    rw [g2]
    simp only [bd1_s, bd3_id]
    rw [u16, h3]
    by_cases e1 : atN q s (k + 2) = 59
    · rw [if_pos e1, e1, if_pos (by decide)]
    · rw [if_neg e1, if_neg (show ¬ nI (atN q s (k + 2)) = (59 : Int32) from fun e => e1 ((nI_eq (b := 59) (by omega) (by decide)).mp e))]
      by_cases e2 : v + 1 = 3
      · rw [if_pos e2, e2, if_pos (by decide)]
      · rw [if_neg e2, if_neg (show ¬ nI (v + 1) = (3 : Int32) from fun e => e2 ((nI_eq (b := 3) (by omega) (by decide)).mp e))]
        by_cases e3 : atN q s (k + 2) = 44
        · rw [if_pos e3, e3, if_pos (by decide)]
        · rw [if_neg e3, if_neg (show ¬ nI (atN q s (k + 2)) = (44 : Int32) from fun e => e3 ((nI_eq (b := 44) (by omega) (by decide)).mp e))]
  rw [f_X5_read_17, h16, if_neg (show ¬ (3 : Int32) ≤ nI v from nI_ge (b := 3) hv (by decide)), f0, bd1_s]
  by_cases d0 : 48 ≤ atN q s k ∧ atN q s k ≤ 57
  · rw [if_pos d0, if_neg (show ¬ bz (decide (48 + 0 ≤ atN q s k ∧ atN q s k ≤ 57)) = 0 by rw [decide_eq_true (by omega)]; decide), g0, bd1_s]
    simp only [nI_1]
    rw [f10, f11, bd1_s, bd1_s]
    by_cases z : atN q s k = 48
    · rw [if_pos (show nI (atN q s k) = (48 : Int32) by rw [z]; decide), if_pos z]
      by_cases d1 : 49 ≤ atN q s (k + 1) ∧ atN q s (k + 1) ≤ 57
      · rw [if_pos d1, if_neg (show ¬ bz (decide (48 + 1 ≤ atN q s (k + 1) ∧ atN q s (k + 1) ≤ 57)) = 0 by rw [decide_eq_true (by omega)]; decide)]
        refine tail _ ?_
        rw [nI_1]
      · rw [if_neg d1, if_pos (show bz (decide (48 + 1 ≤ atN q s (k + 1) ∧ atN q s (k + 1) ≤ 57)) = 0 by rw [decide_eq_false (by omega)]; decide)]
    · rw [if_neg (show ¬ nI (atN q s k) = (48 : Int32) from fun e => z ((nI_eq (b := 48) (by omega) (by decide)).mp e)), if_neg z]
      by_cases d1 : 48 ≤ atN q s (k + 1) ∧ atN q s (k + 1) ≤ 57
      · rw [if_pos d1, if_neg (show ¬ bz (decide (48 + 0 ≤ atN q s (k + 1) ∧ atN q s (k + 1) ≤ 57)) = 0 by rw [decide_eq_true (by omega)]; decide)]
        refine tail _ ?_
        rw [nI_1]
      · rw [if_neg d1, if_pos (show bz (decide (48 + 0 ≤ atN q s (k + 1) ∧ atN q s (k + 1) ≤ 57)) = 0 by rw [decide_eq_false (by omega)]; decide)]
  · rw [if_neg d0, if_pos (show bz (decide (48 + 0 ≤ atN q s k ∧ atN q s k ≤ 57)) = 0 by rw [decide_eq_false (by omega)]; decide)]
