/-! the answers from what is held -/
theorem fo_indn {α : Type} {f : Nat → α → α} {P : Nat → α → Prop} {N : Nat} (h : ∀ t a, t < N → P t a → P (t + 1) (f t a)) : ∀ m t a, t + m = N → P t a → P N (fo f m t a) := by
  intro m
  induction m with
  | zero => intro t a ht hp; obtain rfl : t = N := (by omega); exact hp
  | succ m ih => intro t a ht hp; exact ih (t + 1) (f t a) (by omega) (h t a (by omega) hp)
theorem b6_cases (x : Int32) : (∃ i, i < 6 ∧ x = Int32.ofNat i ∧ ¬ x < 0 ∧ x < 6 ∧ ¬ (x < 0 ∨ (5 : Int32) < x)) ∨ ((x < 0 ∨ ¬ x < 6) ∧ (x < 0 ∨ (5 : Int32) < x)) := by
  rcases i8_cases x with h | ⟨t, ht, rfl⟩ | ⟨h1, h2⟩
  · exact Or.inr ⟨Or.inl h, Or.inl h⟩
  · by_cases h3 : t < 6
    · refine Or.inl ⟨t, h3, rfl, nneg (by omega), ?_, fun z => z.elim (nneg (by omega)) ?_⟩
      · rw [show (6 : Int32) = Int32.ofNat 6 from rfl, on_lt (by omega) (by omega)]; exact h3
      · rw [show (5 : Int32) = Int32.ofNat 5 from rfl, on_lt (by omega) (by omega)]; omega
    · refine Or.inr ⟨Or.inr ?_, Or.inr ?_⟩
      · rw [show (6 : Int32) = Int32.ofNat 6 from rfl, on_lt (by omega) (by omega)]; exact h3
      · rw [show (5 : Int32) = Int32.ofNat 5 from rfl, on_lt (by omega) (by omega)]; omega
  · rw [Int32.lt_iff_toInt_lt] at h1 h2
    refine Or.inr ⟨Or.inr ?_, Or.inr ?_⟩
    · rw [Int32.lt_iff_toInt_lt]
      have : (8 : Int32).toInt = 8 := rfl
      have : (6 : Int32).toInt = 6 := rfl
      omega
    · rw [Int32.lt_iff_toInt_lt]
      have : (8 : Int32).toInt = 8 := rfl
      have : (5 : Int32).toInt = 5 := rfl
      omega
theorem on_pos {n : Nat} (h : n < 2147483648) : (0 : Int32) < Int32.ofNat n ↔ 0 < n := by
  rw [show (0 : Int32) = Int32.ofNat 0 from rfl, on_lt (by omega) h]
section MG
variable {f : Nat → Nat → Int32} {g : (Nat → Nat → Int64) × (Nat → Nat → Option Nat)} {nt b c : Nat} {tm : Nat → Nat} {k : Int32}
theorem bit_v {x t : Nat} : ((Int32.ofNat x >>> (Int32.ofNat t &&& 31)) &&& 1) = if tb (Int32.ofNat x) t = true then 1 else 0 := by
  by_cases hc : tb (Int32.ofNat x) t = true
  · rw [if_pos hc]; exact tb_1.mpr hc
  · rw [if_neg hc]; exact tb_0.mpr (by simpa using hc)
theorem c_known (I : IMc f nt b tm c) {t : Nat} (ht : t < 6) {K : Int32 → Int32 → Option Int32} : ∀ m n i x y, i + m = 64 → lp_X3_knownOf_8 (Int32.ofNat t) k (f, g) K (n + m + 1) (Int32.ofNat x) (Int32.ofNat y) (Int32.ofNat i) = K (Int32.ofNat (x + cn (fun j => FF f tm nt c k j && tb (Int32.ofNat j) t) m i)) (Int32.ofNat (y + cn (fun j => FF f tm nt c k j && !tb (Int32.ofNat j) t) m i)) := by
  intro m
  induction m with
  | zero =>
    intro n i x y hi
    obtain rfl : i = 64 := by omega
    rw [lp_X3_knownOf_8, if_neg (by decide)]
    rfl
  | succ m ih =>
    intro n i x y hi
    rw [lp_X3_knownOf_8, if_pos (lt64 (by omega)), X3_isFitting I (by omega), cal_some, cn, cn]
    by_cases e : FF f tm nt c k i = true
    · have e' : (decide (0 < nt) && FT f tm c k i) = true := e
      rw [if_pos e', if_neg (by decide), on_succ, bit_v, e, Bool.true_and, Bool.true_and, ← Nat.add_assoc n m 1]
      cases hb : tb (Int32.ofNat i) t
      · rw [if_neg (by decide), if_neg (by decide), if_pos (by decide), show Int32.ofNat x + 0 = Int32.ofNat x from Int32.add_zero _, show (1 : Int32) - 0 = 1 from rfl, on_succ, ih n (i + 1) x (y + 1) (by omega), Nat.zero_add, Nat.add_assoc]
      · rw [if_pos rfl, if_pos rfl, if_neg (by decide), show Int32.ofNat y + (1 - 1) = Int32.ofNat y from Int32.add_zero _, on_succ, ih n (i + 1) (x + 1) y (by omega), Nat.zero_add, Nat.add_assoc]
    · have e' : ¬ (decide (0 < nt) && FT f tm c k i) = true := e
      have e'' : FF f tm nt c k i = false := by simpa using e
      rw [if_neg e', if_pos rfl, on_succ, e'', Bool.false_and, Bool.false_and, ← Nat.add_assoc n m 1, ih n (i + 1) x y (by omega), if_neg (by decide), Nat.zero_add, Nat.zero_add]
theorem m_sure {F : Nat → Bool} {t : Nat} (ht : t < 6) {v : Int32} (h447 : ∀ j, j < 64 → f 447 j = if F j = true then 1 else 0) {K : Int32 → am_H → Option (Int32 × am_H)} : ∀ m n i x, i + m = 64 → lp_X12_sure_27 (Int32.ofNat t) v K (n + m + 1) (Int32.ofNat x) (Int32.ofNat i) (f, g) = K (Int32.ofNat (x + cn (fun j => F j && tb (Int32.ofNat j) t) m i)) (f, g) := by
  intro m
  induction m with
  | zero =>
    intro n i x hi
    obtain rfl : i = 64 := by omega
    rw [lp_X12_sure_27, if_neg (by decide)]
    rfl
  | succ m ih =>
    intro n i x hi
    rw [lp_X12_sure_27, if_pos (lt64 (by omega)), rdI_n (by omega) (by decide)]
    simp only [h447 i (by omega)]
    rw [cn]
    by_cases e : F i = true
    · rw [if_pos e, if_neg (by decide), on_succ, bit_v, e, Bool.true_and, ← Nat.add_assoc n m 1]
      cases hb : tb (Int32.ofNat i) t
      · rw [if_neg (by decide), if_neg (by decide), show Int32.ofNat x + 0 = Int32.ofNat x from Int32.add_zero _, ih n (i + 1) x (by omega), Nat.zero_add]
      · rw [if_pos rfl, if_pos rfl, on_succ, ih n (i + 1) (x + 1) (by omega), Nat.add_assoc]
    · have e'' : F i = false := by simpa using e
      rw [if_neg e, if_pos rfl, on_succ, e'', Bool.false_and, ← Nat.add_assoc n m 1, show Int32.ofNat x + 0 = Int32.ofNat x from Int32.add_zero _, ih n (i + 1) x (by omega), if_neg (by decide), Nat.zero_add]
/-- a question: the class answers, the model too, with its own pad -/
def MQ1 (f : Nat → Nat → Int32) (g : (Nat → Nat → Int64) × (Nat → Nat → Option Nat)) (C : am_H → Option Int32) (M : am_H → Option (Int32 × am_H)) : Prop := ∃ v f2, C (f, g) = some v ∧ M (f, g) = some (v, (f2, g)) ∧ (∀ a, a ≠ 446 → a ≠ 447 → a ≠ 413 → f2 a = f a) ∧ ∀ k, k ≠ 57 → f2 413 k = f 413 k
theorem q_fits (I : IMc f nt b tm c) (k : Int32) : MQ1 f g (f_X11_fits k) (f_X12_fits k) := by
  obtain ⟨f', a1, a2, a3, a4, a5⟩ := X12_fits (g := g) (k := k) I
  refine ⟨_, f', ?_, a1, fun a z1 z2 z3 => a3 a z2 z3, a4⟩
  unfold f_X11_fits
  rw [X3_countFitting I, cal_some]
theorem q_sure (I : IMc f nt b tm c) (x k : Int32) : MQ1 f g (f_X11_sure x k) (f_X12_sure x k) := by
  obtain ⟨f', a1, a2, a3, a4, a5⟩ := X12_fits (g := g) (k := k) I
  have one : ¬ (1 : Int32) = 0 := by decide
  rcases b6_cases x with ⟨t, ht, rfl, z1, z2, z3⟩ | ⟨z1, z2⟩
  · have hk := c_known (k := k) I (g := g) ht (K := fun z4 z5 => if 0 < z4 then if 0 < z5 then some (-2) else jn_X3_knownOf_65 z4 z5 (f, g) else jn_X3_knownOf_65 z4 z5 (f, g)) 64 3935 0 0 0 rfl
    have hs := cn_split (F := FF f tm nt c k) (B := fun j => tb (Int32.ofNat j) t) 64 0
    have h1 := cn_le (F := fun j => FF f tm nt c k j && tb (Int32.ofNat j) t) 64 0
    have h2 := cn_le (F := fun j => FF f tm nt c k j && !tb (Int32.ofNat j) t) 64 0
    rw [Nat.zero_add, Nat.zero_add] at hk
    have hm : ∀ v : Int32, 0 < nt → lp_X12_sure_27 (Int32.ofNat t) v (fun z11 h12 => if z11 = v then some (1, h12) else if z11 = 0 then some (0, h12) else some ((-2), h12)) 4000 0 0 (f', g) = _ := fun v hn => m_sure (g := g) (f := f') (F := FF f tm nt c k) ht (v := v) (a5 hn) (K := fun z11 h12 => if z11 = v then some (1, h12) else if z11 = 0 then some (0, h12) else some ((-2), h12)) 64 3935 0 0 rfl
    generalize hA : cn (fun j => FF f tm nt c k j && tb (Int32.ofNat j) t) 64 0 = A at hk hs h1 hm
    generalize hB : cn (fun j => FF f tm nt c k j && !tb (Int32.ofNat j) t) 64 0 = B at hk hs h2
    have hC : f_X11_sure (Int32.ofNat t) k (f, g) = some (if 0 < A then if 0 < B then -2 else 1 else if 0 < B then 0 else -1) := by
      unfold f_X11_sure f_X3_knownOf
      have hk' : lp_X3_knownOf_8 (Int32.ofNat t) k (f, g) (fun z4 z5 => if 0 < z4 then if 0 < z5 then some (-2) else jn_X3_knownOf_65 z4 z5 (f, g) else jn_X3_knownOf_65 z4 z5 (f, g)) 4000 0 0 0 = _ := hk
      rw [if_neg z1, if_pos z2, hk']
      unfold jn_X3_knownOf_65
      simp only [on_pos (show A < 2147483648 by omega), on_pos (show B < 2147483648 by omega)]
      by_cases c1 : 0 < A <;> by_cases c2 : 0 < B <;> simp only [c1, c2, if_true, if_false, cal_some]
    refine ⟨_, f', hC, ?_, fun a z1 z2 z3 => a3 a z2 z3, a4⟩
    unfold f_X12_sure
    rw [a1, cal2_some, X12_isIn, cal_some, if_neg z3, if_neg one]
    by_cases hn : 0 < nt
    · rw [hm _ hn, Nat.zero_add, hs]
      by_cases c0 : A + B = 0
      · rw [if_pos (by rw [c0]; rfl), if_neg (by omega), if_neg (by omega)]
      · rw [if_neg (fun z => c0 ((on_zero (by omega)).mp z))]
        by_cases c1 : A = A + B
        · rw [if_pos (by rw [← c1]), if_pos (by omega), if_neg (by omega)]
        · rw [if_neg (fun z => c1 ((on_inj (by omega) (by omega)).mp z))]
          by_cases c2 : A = 0
          · rw [if_pos (by rw [c2]; rfl), if_neg (by omega), if_pos (by omega)]
          · rw [if_neg (fun z => c2 ((on_zero (by omega)).mp z)), if_pos (by omega), if_pos (by omega)]
    · have c0 : cn (FF f tm nt c k) 64 0 = 0 := by
        have : ∀ m i, cn (FF f tm nt c k) m i = 0 := fun m => by
          induction m with
          | zero => intro i; rfl
          | succ m ih => intro i; rw [cn, ih, FF, decide_eq_false hn, Bool.false_and]; rfl
        exact this 64 0
      rw [c0] at hs ⊢
      rw [if_pos (by rfl), if_neg (by omega), if_neg (by omega)]
  · refine ⟨-1, f', ?_, ?_, fun a z1 z2 z3 => a3 a z2 z3, a4⟩
    · unfold f_X11_sure
      by_cases e : x < 0
      · rw [if_pos e]
      · rw [if_neg e, if_neg (z1.elim (fun z => absurd z e) id)]
    · unfold f_X12_sure
      rw [a1, cal2_some, X12_isIn, cal_some, if_pos z2, if_pos rfl]
end MG
