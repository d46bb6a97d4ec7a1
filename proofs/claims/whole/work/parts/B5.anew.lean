/-! all as told, in the model and in the class -/
/-- a row as it is told, as far as n -/
def QP (D : DR) (n : Nat) (a c : Int32) (w : Nat → Int32) : Prop := (∀ t, t < 8 → w t = (if t < n then Int32.ofNat (D.2.1 3 t) else 0) ∧ w (8 + t) = (if t < n then Int32.ofNat (D.2.1 4 t) else 0) ∧ w (16 + t) = (if t < n then Int32.ofNat (D.2.1 5 t) else 0) ∧ w (24 + t) = (if t < n then Int32.ofNat (D.2.1 6 t) else 0) ∧ w (32 + t) = 0 ∧ w (40 + t) = -1 ∧ w (48 + t) = -1) ∧ w 56 = a ∧ w 57 = 0 ∧ w 58 = c
section LA5
variable {f : Nat → Nat → Int32} {g : (Nat → Nat → Int64) × (Nat → Nat → Option Nat)} {D : DR}
theorem an_zero {K : am_H → Option am_H} : ∀ m n i (w : Nat → Int32), i + m = 59 → ∃ w', lp_X12_startAnew_2 K (n + m + 1) (Int32.ofNat i) (up f 437 w, g) = K (up f 437 w', g) ∧ (∀ j, j < i → w' j = w j) ∧ ∀ j, i ≤ j → j < 59 → w' j = 0 := by
  intro m
  induction m with
  | zero =>
    intro n i w hi
    obtain rfl : i = 59 := by omega
    rw [lp_X12_startAnew_2, if_neg (by decide)]
    exact ⟨w, rfl, fun _ _ => rfl, fun j h1 h2 => absurd h2 (by omega)⟩
  | succ m ih =>
    intro n i w hi
    rw [show n + (m + 1) + 1 = (n + m + 1) + 1 by omega, lp_X12_startAnew_2, if_pos (lt59 (by omega)), wrIp (by omega) (by decide), upw, on_succ]
    obtain ⟨w', a1, a2, a3⟩ := ih n (i + 1) (st w i 0) (by omega)
    refine ⟨w', a1, fun j hj => by rw [a2 j (by omega), st_ne (by omega)], fun j h1 h2 => ?_⟩
    by_cases c : j = i
    · rw [c, a2 i (by omega), st_same]
    · exact a3 j (by omega) h2
theorem zCl_ne {t j : Nat} {q : Nat → Int32} (h1 : j ≠ t) (h2 : j ≠ 8 + t) (h3 : j ≠ 16 + t) (h4 : j ≠ 24 + t) (h5 : j ≠ 32 + t) (h6 : j ≠ 40 + t) (h7 : j ≠ 48 + t) : zCl t q j = q j := by
  unfold zCl
  rw [st_ne h7, st_ne h6, st_ne h5, st_ne h4, st_ne h3, st_ne h2, st_ne h1]
/-- free places so far -/
def FP (i : Nat) (w : Nat → Int32) : Prop := (∀ t, t < 8 → w t = 0 ∧ w (8 + t) = 0 ∧ w (16 + t) = 0 ∧ w (24 + t) = 0 ∧ w (32 + t) = 0) ∧ (∀ t, t < i → t < 8 → w (40 + t) = -1 ∧ w (48 + t) = -1) ∧ w 56 = 0 ∧ w 57 = 0 ∧ w 58 = 0
theorem FP_step {i : Nat} {w : Nat → Int32} (hi : i < 8) (h : FP i w) : FP (i + 1) (zCl i w) := by
  obtain ⟨h1, h2, h3, h4, h5⟩ := h
  have o : ∀ j, 56 ≤ j → zCl i w j = w j := fun j hj => zCl_ne (by omega) (by omega) (by omega) (by omega) (by omega) (by omega) (by omega)
  refine ⟨fun t ht => ?_, fun t hti ht => ?_, by rw [o 56 (by decide)]; exact h3, by rw [o 57 (by decide)]; exact h4, by rw [o 58 (by decide)]; exact h5⟩
  · by_cases c : t = i
    · subst c
      unfold zCl
      refine ⟨?_, ?_, ?_, ?_, ?_⟩
      · rw [st_ne (by omega), st_ne (by omega), st_ne (by omega), st_ne (by omega), st_ne (by omega), st_ne (by omega), st_same]
      · rw [st_ne (by omega), st_ne (by omega), st_ne (by omega), st_ne (by omega), st_ne (by omega), st_same]
      · rw [st_ne (by omega), st_ne (by omega), st_ne (by omega), st_ne (by omega), st_same]
      · rw [st_ne (by omega), st_ne (by omega), st_ne (by omega), st_same]
      · rw [st_ne (by omega), st_ne (by omega), st_same]
    · rw [zCl_ne (j := t) (by omega) (by omega) (by omega) (by omega) (by omega) (by omega) (by omega), zCl_ne (j := 8 + t) (by omega) (by omega) (by omega) (by omega) (by omega) (by omega) (by omega), zCl_ne (j := 16 + t) (by omega) (by omega) (by omega) (by omega) (by omega) (by omega) (by omega), zCl_ne (j := 24 + t) (by omega) (by omega) (by omega) (by omega) (by omega) (by omega) (by omega), zCl_ne (j := 32 + t) (by omega) (by omega) (by omega) (by omega) (by omega) (by omega) (by omega)]
      exact h1 t ht
  · by_cases c : t = i
    · subst c
      unfold zCl
      refine ⟨?_, ?_⟩
      · rw [st_ne (by omega), st_same]
      · rw [st_same]
    · rw [zCl_ne (j := 40 + t) (by omega) (by omega) (by omega) (by omega) (by omega) (by omega) (by omega), zCl_ne (j := 48 + t) (by omega) (by omega) (by omega) (by omega) (by omega) (by omega) (by omega)]
      exact h2 t (by omega) ht
theorem an_free {K : am_H → Option am_H} : ∀ m n i (w : Nat → Int32), i + m = 8 → FP i w → ∃ w', lp_X12_startAnew_23 K (n + m + 1) (Int32.ofNat i) (up f 437 w, g) = K (up f 437 w', g) ∧ FP 8 w' := by
  intro m
  induction m with
  | zero =>
    intro n i w hi h
    obtain rfl : i = 8 := by omega
    rw [lp_X12_startAnew_23, if_neg (by decide)]
    exact ⟨w, rfl, h⟩
  | succ m ih =>
    intro n i w hi h
    rw [show n + (m + 1) + 1 = (n + m + 1) + 1 by omega, lp_X12_startAnew_23, if_pos (i8_lt i (by omega)), X12_clearPlace (by omega), cal_some, on_succ]
    exact ih n (i + 1) (zCl i w) (by omega) (FP_step (by omega) h)
theorem QP_free {w : Nat → Int32} (h : FP 8 w) : QP D 0 0 0 w := by
  obtain ⟨h1, h2, h3⟩ := h
  refine ⟨fun t ht => ?_, h3⟩
  obtain ⟨a1, a2, a3, a4, a5⟩ := h1 t ht
  obtain ⟨b1, b2⟩ := h2 t ht ht
  rw [if_neg (by omega), if_neg (by omega), if_neg (by omega), if_neg (by omega)]
  exact ⟨a1, a2, a3, a4, a5, b1, b2⟩
theorem QP_step {i : Nat} {w : Nat → Int32} {a c : Int32} (hi : i < 8) (h : QP D i a c w) : QP D (i + 1) a c (st (st (st (st w i (Int32.ofNat (D.2.1 3 i))) (8 + i) (Int32.ofNat (D.2.1 4 i))) (16 + i) (Int32.ofNat (D.2.1 5 i))) (24 + i) (Int32.ofNat (D.2.1 6 i))) := by
  obtain ⟨h1, h2⟩ := h
  refine ⟨fun t ht => ?_, by rw [st_ne (by omega), st_ne (by omega), st_ne (by omega), st_ne (by omega), st_ne (by omega), st_ne (by omega), st_ne (by omega), st_ne (by omega), st_ne (by omega), st_ne (by omega), st_ne (by omega), st_ne (by omega)]; exact h2⟩
  obtain ⟨a1, a2, a3, a4, a5⟩ := h1 t ht
  by_cases e : t = i
  · subst e
    rw [if_pos (by omega), if_pos (by omega), if_pos (by omega), if_pos (by omega)]
    refine ⟨?_, ?_, ?_, ?_, ?_⟩
    · rw [st_ne (by omega), st_ne (by omega), st_ne (by omega), st_same]
    · rw [st_ne (by omega), st_ne (by omega), st_same]
    · rw [st_ne (by omega), st_same]
    · rw [st_same]
    · rw [st_ne (by omega), st_ne (by omega), st_ne (by omega), st_ne (by omega), st_ne (by omega), st_ne (by omega), st_ne (by omega), st_ne (by omega), st_ne (by omega), st_ne (by omega), st_ne (by omega), st_ne (by omega)]
      exact a5
  · have ee : (t < i + 1) ↔ t < i := by omega
    simp only [ee]
    refine ⟨?_, ?_, ?_, ?_, ?_⟩
    · rw [st_ne (by omega), st_ne (by omega), st_ne (by omega), st_ne (by omega)]; exact a1
    · rw [st_ne (by omega), st_ne (by omega), st_ne (by omega), st_ne (by omega)]; exact a2
    · rw [st_ne (by omega), st_ne (by omega), st_ne (by omega), st_ne (by omega)]; exact a3
    · rw [st_ne (by omega), st_ne (by omega), st_ne (by omega), st_ne (by omega)]; exact a4
    · rw [st_ne (by omega), st_ne (by omega), st_ne (by omega), st_ne (by omega), st_ne (by omega), st_ne (by omega), st_ne (by omega), st_ne (by omega), st_ne (by omega), st_ne (by omega), st_ne (by omega), st_ne (by omega)]
      exact a5
theorem an_told {b : Nat} (hb : b < 2) (h32 : f 413 32 = Int32.ofNat b) (hn : D.1 1 ≤ 6) (h417 : f 417 b = Int32.ofNat (D.1 1)) (ha : ∀ i, i < D.1 1 → f 424 (6 * b + i) = Int32.ofNat (D.2.1 3 i) ∧ f 425 (6 * b + i) = Int32.ofNat (D.2.1 4 i) ∧ f 426 (6 * b + i) = Int32.ofNat (D.2.1 5 i) ∧ f 427 (6 * b + i) = Int32.ofNat (D.2.1 6 i)) {K : am_H → Option am_H} : ∀ m n i (w : Nat → Int32), i + m = D.1 1 → QP D i 0 0 w → ∃ w', lp_X12_startAnew_42 K (n + m + 1) (Int32.ofNat i) (up f 437 w, g) = K (up f 437 w', g) ∧ QP D (D.1 1) 0 0 w' := by
  have u32 : ∀ w : Nat → Int32, up f 437 w 413 32 = Int32.ofNat b := fun w => by rw [up_ne (by decide)]; exact h32
  have u417 : ∀ w : Nat → Int32, up f 437 w 417 b = Int32.ofNat (D.1 1) := fun w => by rw [up_ne (by decide)]; exact h417
  have o0 : ∀ i, (0 : Int32) + Int32.ofNat i = Int32.ofNat i := fun i => by
    rw [show (0 : Int32) = Int32.ofNat 0 from rfl, on_add, Nat.zero_add]
  have o8 : ∀ i, (8 : Int32) + Int32.ofNat i = Int32.ofNat (8 + i) := fun i => on_add 8 i
  have o16 : ∀ i, (16 : Int32) + Int32.ofNat i = Int32.ofNat (16 + i) := fun i => on_add 16 i
  have o24 : ∀ i, (24 : Int32) + Int32.ofNat i = Int32.ofNat (24 + i) := fun i => on_add 24 i
  have o6 : ∀ i, (6 : Int32) * Int32.ofNat b + Int32.ofNat i = Int32.ofNat (6 * b + i) := fun i => bx12
  intro m
  induction m with
  | zero =>
    intro n i w hi h
    obtain rfl : i = D.1 1 := by omega
    rw [lp_X12_startAnew_42, bndv (u32 w), rdIv hb (by decide) (u417 w), if_neg (by rw [on_lt (by omega) (by omega)]; omega)]
    exact ⟨w, rfl, h⟩
  | succ m ih =>
    intro n i w hi h
    obtain ⟨a3, a4, a5, a6⟩ := ha i (by omega)
    have u : ∀ (w : Nat → Int32) (a k : Nat) (v : Int32), a ≠ 437 → f a k = v → up f 437 w a k = v := fun w a k v z e => by rw [up_ne z]; exact e
    rw [show n + (m + 1) + 1 = (n + m + 1) + 1 by omega, lp_X12_startAnew_42, bndv (u32 w), rdIv hb (by decide) (u417 w), if_pos (by rw [on_lt (by omega) (by omega)]; omega), bndv (u32 w), o6]
    rw [rdIv (by omega) (by decide) (u w 424 _ _ (by decide) a3), o0, wrIp (by omega) (by decide), upw]
    rw [rdIv (by omega) (by decide) (u _ 425 _ _ (by decide) a4), o8, wrIp (by omega) (by decide), upw]
    rw [rdIv (by omega) (by decide) (u _ 426 _ _ (by decide) a5), o16, wrIp (by omega) (by decide), upw]
    rw [rdIv (by omega) (by decide) (u _ 427 _ _ (by decide) a6), o24, wrIp (by omega) (by decide), upw, on_succ]
    exact ih n (i + 1) _ (by omega) (QP_step (by omega) h)
theorem an_box : ∀ m n i (f : Nat → Nat → Int32), i + m = 3 → ∃ w, lp_X12_startAnew_184 (n + m + 1) (Int32.ofNat i) (f, g) = some (up f 449 w, g) ∧ (∀ j, j < i → w j = f 449 j) ∧ ∀ j, i ≤ j → j < 3 → w j = 0 := by
  intro m
  induction m with
  | zero =>
    intro n i f hi
    obtain rfl : i = 3 := by omega
    rw [lp_X12_startAnew_184, if_neg (by decide)]
    exact ⟨f 449, by rw [up_self], fun _ _ => rfl, fun j h1 h2 => absurd h2 (by omega)⟩
  | succ m ih =>
    intro n i f hi
    have h3 : Int32.ofNat i < 3 := by rw [show (3 : Int32) = Int32.ofNat 3 from rfl, on_lt (by omega) (by omega)]; omega
    rw [show n + (m + 1) + 1 = (n + m + 1) + 1 by omega, lp_X12_startAnew_184, if_pos h3, wrIp (by omega) (by decide), vn0, u2_up, on_succ]
    obtain ⟨w, a1, a2, a3⟩ := ih n (i + 1) (up f 449 (st (f 449) i 0)) (by omega)
    rw [up_up] at a1
    rw [up_same] at a2
    refine ⟨w, a1, fun j hj => by rw [a2 j (by omega), st_ne (by omega)], fun j h1 h2 => ?_⟩
    by_cases c : j = i
    · rw [c, a2 i (by omega), st_same]
    · exact a3 j (by omega) h2
/-- the model stands anew -/
theorem X12_startAnew {b : Nat} (hb : b < 2) (h32 : f 413 32 = Int32.ofNat b) (hn : D.1 1 ≤ 6) (h417 : f 417 b = Int32.ofNat (D.1 1)) (h420 : f 420 b = Int32.ofNat (D.1 3)) (h421 : f 421 b = Int32.ofNat (D.1 4)) (ha : ∀ i, i < D.1 1 → f 424 (6 * b + i) = Int32.ofNat (D.2.1 3 i) ∧ f 425 (6 * b + i) = Int32.ofNat (D.2.1 4 i) ∧ f 426 (6 * b + i) = Int32.ofNat (D.2.1 5 i) ∧ f 427 (6 * b + i) = Int32.ofNat (D.2.1 6 i)) : ∃ f', f_X12_startAnew (f, g) = some (f', g) ∧ QP D (D.1 1) (Int32.ofNat (D.1 3)) (Int32.ofNat (D.1 4)) (f' 437) ∧ f' 413 44 = 0 ∧ f' 413 45 = 0 ∧ f' 413 55 = 0 ∧ f' 413 47 = 0 ∧ (∀ i, i < 3 → f' 449 i = 0) ∧ (∀ a, a ≠ 413 → a ≠ 437 → a ≠ 449 → f' a = f a) ∧ ∀ k, k ≠ 44 → k ≠ 45 → k ≠ 55 → k ≠ 47 → f' 413 k = f 413 k := by
  unfold f_X12_startAnew
  have ef : (f, g) = (up f 437 (f 437), g) := by rw [up_self]
  rw [ef]
  let K3 : am_H → Option am_H := fun h31 => bnd (h31.1 413 32) fun v33 => rdI h31 420 2 v33 fun v34 => wrI h31 437 59 56 v34 fun h35 => bnd (h35.1 413 32) fun v38 => rdI h35 421 2 v38 fun v39 => wrI h35 437 59 58 v39 fun h40 => ptI h40 413 44 0 fun h43 => ptI h43 413 45 0 fun h46 => ptI h46 413 55 0 fun h49 => ptI h49 413 47 0 fun h52 => lp_X12_startAnew_184 4000 0 h52
  obtain ⟨w1, a1, -, a2⟩ := an_zero (f := f) (g := g) (K := fun h4 => lp_X12_startAnew_23 (fun h10 => lp_X12_startAnew_42 K3 4000 0 h10) 4000 0 h4) 59 3940 0 (f 437) (by decide)
  obtain ⟨w2, b1, b2⟩ := an_free (f := f) (g := g) (K := fun h10 => lp_X12_startAnew_42 K3 4000 0 h10) 8 3991 0 w1 (by decide) ⟨fun t ht => ⟨a2 t (by omega) (by omega), a2 (8 + t) (by omega) (by omega), a2 (16 + t) (by omega) (by omega), a2 (24 + t) (by omega) (by omega), a2 (32 + t) (by omega) (by omega)⟩, fun t z => absurd z (by omega), a2 56 (by decide) (by decide), a2 57 (by decide) (by decide), a2 58 (by decide) (by decide)⟩
  obtain ⟨w3, c1, c2⟩ := an_told (f := f) (g := g) (K := K3) hb h32 hn h417 ha (D.1 1) (3999 - D.1 1) 0 w2 (by omega) (QP_free b2)
  have u : ∀ (w : Nat → Int32) (a k : Nat) (v : Int32), a ≠ 437 → f a k = v → up f 437 w a k = v := fun w a k v z e => by rw [up_ne z]; exact e
  let w4 := st (st w3 56 (Int32.ofNat (D.1 3))) 58 (Int32.ofNat (D.1 4))
  let f5 := am_u2 (am_u2 (am_u2 (am_u2 (up f 437 w4) 413 44 0) 413 45 0) 413 55 0) 413 47 0
  have f5a : ∀ a, a ≠ 413 → f5 a = up f 437 w4 a := fun a z => by show am_u2 (am_u2 (am_u2 (am_u2 _ _ _ _) _ _ _) _ _ _) _ _ _ a = _; rw [u2_ne z, u2_ne z, u2_ne z, u2_ne z]
  obtain ⟨w5, d1, -, d2⟩ := an_box (g := g) 3 3996 0 f5 (by decide)
  have hrun : lp_X12_startAnew_2 (fun h4 => lp_X12_startAnew_23 (fun h10 => lp_X12_startAnew_42 K3 4000 0 h10) 4000 0 h4) 4000 0 (up f 437 (f 437), g) = some (up f5 449 w5, g) := by
    rw [show 3999 - D.1 1 + D.1 1 + 1 = 4000 by omega] at c1
    refine Eq.trans a1 (Eq.trans b1 (Eq.trans c1 ?_))
    show bnd ((up f 437 w3, g).1 413 32) _ = _
    rw [bndv (u w3 413 32 _ (by decide) h32), rdIv hb (by decide) (u w3 420 b _ (by decide) h420), show (56 : Int32) = Int32.ofNat 56 from rfl, wrIp (by decide) (by decide), upw, bndv (u _ 413 32 _ (by decide) h32), rdIv hb (by decide) (u _ 421 b _ (by decide) h421), show (58 : Int32) = Int32.ofNat 58 from rfl, wrIp (by decide) (by decide), upw, ptIp, ptIp, ptIp, ptIp]
    exact d1
  refine ⟨up f5 449 w5, hrun, ?_, ?_, ?_, ?_, ?_, fun i hi => by rw [up_same]; exact d2 i (Nat.zero_le _) hi, fun a z1 z2 z3 => by rw [up_ne z3, f5a a z1, up_ne z2], fun k z1 z2 z3 z4 => ?_⟩
  · rw [up_ne (by decide), f5a 437 (by decide), up_same]
    obtain ⟨q1, q2, q3, q4⟩ := c2
    refine ⟨fun t ht => ?_, by show st (st _ _ _) _ _ 56 = _; rw [st_ne (by decide), st_same], by show st (st _ _ _) _ _ 57 = _; rw [st_ne (by decide), st_ne (by decide)]; exact q3, st_same⟩
    have o : ∀ j, j < 56 → w4 j = w3 j := fun j hj => by show st (st _ _ _) _ _ j = _; rw [st_ne (by omega), st_ne (by omega)]
    rw [o t (by omega), o (8 + t) (by omega), o (16 + t) (by omega), o (24 + t) (by omega), o (32 + t) (by omega), o (40 + t) (by omega), o (48 + t) (by omega)]
    exact q1 t ht
  · rw [up_ne (by decide)]; show am_u2 (am_u2 (am_u2 (am_u2 _ _ _ _) _ _ _) _ _ _) _ _ _ 413 44 = _; rw [au_nk (by decide), au_nk (by decide), au_nk (by decide), au_same]
  · rw [up_ne (by decide)]; show am_u2 (am_u2 (am_u2 (am_u2 _ _ _ _) _ _ _) _ _ _) _ _ _ 413 45 = _; rw [au_nk (by decide), au_nk (by decide), au_same]
  · rw [up_ne (by decide)]; show am_u2 (am_u2 (am_u2 (am_u2 _ _ _ _) _ _ _) _ _ _) _ _ _ 413 55 = _; rw [au_nk (by decide), au_same]
  · rw [up_ne (by decide)]; show am_u2 (am_u2 (am_u2 (am_u2 _ _ _ _) _ _ _) _ _ _) _ _ _ 413 47 = _; rw [au_same]
  · rw [up_ne (by decide)]; show am_u2 (am_u2 (am_u2 (am_u2 _ _ _ _) _ _ _) _ _ _) _ _ _ 413 k = _; rw [au_nk z4, au_nk z3, au_nk z2, au_nk z1, up_ne (by decide)]
/-! the class's -/
def RF (s i : Nat) (f : Nat → Nat → Int32) : Prop := ∀ k, k < i → k < 8 → f (s + 1) k = 0 ∧ f (s + 2) k = -1 ∧ f (s + 3) k = 0 ∧ f (s + 4) k = 0 ∧ f (s + 5) k = 0 ∧ f (s + 6) k = -1 ∧ f (s + 7) k = -1
theorem c_rem {s : Nat} {K : am_H → Option am_H} : ∀ m n i (f : Nat → Nat → Int32), i + m = 8 → RF s i f → ∃ f', lp_X7_standAsTold_2 s K (n + m + 1) (Int32.ofNat i) (f, g) = K (f', g) ∧ RF s 8 f' ∧ ∀ a, ¬ (s < a ∧ a < s + 8) → f' a = f a := by
  intro m
  induction m with
  | zero =>
    intro n i f hi h
    obtain rfl : i = 8 := by omega
    rw [lp_X7_standAsTold_2, if_neg (by decide)]
    exact ⟨f, rfl, h, fun _ _ => rfl⟩
  | succ m ih =>
    intro n i f hi h
    rw [show n + (m + 1) + 1 = (n + m + 1) + 1 by omega, lp_X7_standAsTold_2, if_pos (i8_lt i (by omega)), fX7_remove (by omega), cal_some, on_succ]
    obtain ⟨f', a1, a2, a3⟩ := ih n (i + 1) (rmI s i f) (by omega) (fun k hk hk8 => by
      obtain ⟨z1, z2, z3, z4, z5, z6, z7⟩ := rmI_at (s := s) (t := i) (f := f) hk8
      by_cases c : k = i
      · rw [if_pos c] at z1 z2 z3 z4 z5 z6 z7
        exact ⟨z1, z2, z3, z4, z5, z6, z7⟩
      · rw [if_neg c] at z1 z2 z3 z4 z5 z6 z7
        obtain ⟨y1, y2, y3, y4, y5, y6, y7⟩ := h k (by omega) hk8
        refine ⟨z1.trans y1, z2.trans y2, z3.trans y3, z4.trans y4, z5.trans y5, z6.trans ?_, z7.trans ?_⟩
        · rw [y6]; split <;> rfl
        · rw [y7]; split <;> rfl)
    exact ⟨f', a1, a2, fun a z => by rw [a3 a z, rmI_ne z]⟩
/-- told so far, in State 27 -/
def RT (D : DR) (i : Nat) (f : Nat → Nat → Int32) : Prop := ∀ k, k < 8 → f 28 k = (if k < i then Int32.ofNat (D.2.1 3 k) else 0) ∧ f 29 k = (if k < i then Int32.ofNat (D.2.1 4 k) else -1) ∧ f 30 k = (if k < i then Int32.ofNat (D.2.1 5 k) else 0) ∧ f 31 k = (if k < i then Int32.ofNat (D.2.1 6 k) else 0) ∧ f 32 k = 0 ∧ f 33 k = -1 ∧ f 34 k = -1
theorem RT_step {i : Nat} {f : Nat → Nat → Int32} (hi : i < 8) (h : RT D i f) : RT D (i + 1) (am_u2 (am_u2 (am_u2 (am_u2 f 28 i (Int32.ofNat (D.2.1 3 i))) 29 i (Int32.ofNat (D.2.1 4 i))) 30 i (Int32.ofNat (D.2.1 5 i))) 31 i (Int32.ofNat (D.2.1 6 i))) := by
  intro k hk
  obtain ⟨a1, a2, a3, a4, a5⟩ := h k hk
  by_cases e : k = i
  · subst e
    rw [if_pos (by omega), if_pos (by omega), if_pos (by omega), if_pos (by omega)]
    refine ⟨?_, ?_, ?_, ?_, ?_⟩
    · rw [u2_ne (by decide), u2_ne (by decide), u2_ne (by decide), au_same]
    · rw [u2_ne (by decide), u2_ne (by decide), au_same]
    · rw [u2_ne (by decide), au_same]
    · rw [au_same]
    · rw [u2_ne (by decide), u2_ne (by decide), u2_ne (by decide), u2_ne (by decide), u2_ne (by decide), u2_ne (by decide), u2_ne (by decide), u2_ne (by decide), u2_ne (by decide), u2_ne (by decide), u2_ne (by decide), u2_ne (by decide)]
      exact a5
  · have ee : (k < i + 1) ↔ k < i := by omega
    simp only [ee]
    rw [au_nk e, au_nk e, au_nk e, au_nk e, au_nk e, au_nk e, au_nk e, au_nk e, au_nk e, au_nk e, au_nk e, au_nk e, au_nk e, au_nk e, au_nk e, au_nk e, au_nk e, au_nk e, au_nk e, au_nk e, au_nk e, au_nk e, au_nk e, au_nk e, au_nk e, au_nk e, au_nk e, au_nk e]
    exact ⟨a1, a2, a3, a4, a5⟩
theorem c_told {n0 : Nat} (hn : n0 ≤ 6) {K : am_H → Option am_H} : ∀ m n i (f : Nat → Nat → Int32), i + m = n0 → f 4 7 = Int32.ofNat n0 → (∀ k, k < n0 → f 6 k = Int32.ofNat (D.2.1 3 k) ∧ f 7 k = Int32.ofNat (D.2.1 4 k) ∧ f 8 k = Int32.ofNat (D.2.1 5 k) ∧ f 9 k = Int32.ofNat (D.2.1 6 k)) → RT D i f → ∃ f', lp_X7_standAsTold_21 27 K (n + m + 1) (Int32.ofNat i) (f, g) = K (f', g) ∧ RT D n0 f' ∧ ∀ a, ¬ (27 < a ∧ a < 35) → f' a = f a := by
  intro m
  induction m with
  | zero =>
    intro n i f hi h7 ha h
    obtain rfl : i = n0 := by omega
    rw [lp_X7_standAsTold_21, bndv h7, if_neg (by rw [on_lt (by omega) (by omega)]; omega)]
    exact ⟨f, rfl, h, fun _ _ => rfl⟩
  | succ m ih =>
    intro n i f hi h7 ha h
    obtain ⟨a3, a4, a5, a6⟩ := ha i (by omega)
    have l6 : Int32.ofNat i < 6 := by rw [show (6 : Int32) = Int32.ofNat 6 from rfl, on_lt (by omega) (by omega)]; omega
    have hadd : ∀ x y z : Int32, f_X7_add 27 (Int32.ofNat i) x y z (f, g) = some (am_u2 (am_u2 (am_u2 f 28 i x) 29 i y) 30 i z, g) := fun x y z => by
      unfold f_X7_add
      rw [if_neg (nneg (by omega)), if_pos (i8_lt i (by omega)), wrIp (by omega) (by decide), wrIp (by omega) (by decide), wrIp (by omega) (by decide)]
    rw [show n + (m + 1) + 1 = (n + m + 1) + 1 by omega, lp_X7_standAsTold_21, bndv h7, if_pos (by rw [on_lt (by omega) (by omega)]; omega), if_pos l6, rdIv (by omega) (by decide) a3, rdIv (by omega) (by decide) a4, rdIv (by omega) (by decide) a5, hadd, cal_some, rdIv (v := Int32.ofNat (D.2.1 6 i)) (by omega) (by decide) (by rw [u2_ne (by decide), u2_ne (by decide), u2_ne (by decide)]; exact a6), wrIp (by omega) (by decide), on_succ]
    let f1 := am_u2 (am_u2 (am_u2 (am_u2 f 28 i (Int32.ofNat (D.2.1 3 i))) 29 i (Int32.ofNat (D.2.1 4 i))) 30 i (Int32.ofNat (D.2.1 5 i))) 31 i (Int32.ofNat (D.2.1 6 i))
    have f1a : ∀ a, ¬ (27 < a ∧ a < 35) → f1 a = f a := fun a z => by show am_u2 (am_u2 (am_u2 (am_u2 _ _ _ _) _ _ _) _ _ _) _ _ _ a = _; rw [u2_ne (by omega), u2_ne (by omega), u2_ne (by omega), u2_ne (by omega)]
    obtain ⟨f', b1, b2, b3⟩ := ih n (i + 1) f1 (by omega) (by rw [f1a 4 (by decide)]; exact h7) (fun k hk => by rw [f1a 6 (by decide), f1a 7 (by decide), f1a 8 (by decide), f1a 9 (by decide)]; exact ha k hk) (RT_step (by omega) h)
    exact ⟨f', b1, b2, fun a z => by rw [b3 a z, f1a a z]⟩
/-- the class stands as told -/
theorem X7_standAsTold (hn : D.1 1 ≤ 6) (h7 : f 4 7 = Int32.ofNat (D.1 1)) (h9 : f 4 9 = Int32.ofNat (D.1 3)) (h10 : f 4 10 = Int32.ofNat (D.1 4)) (ha : ∀ k, k < D.1 1 → f 6 k = Int32.ofNat (D.2.1 3 k) ∧ f 7 k = Int32.ofNat (D.2.1 4 k) ∧ f 8 k = Int32.ofNat (D.2.1 5 k) ∧ f 9 k = Int32.ofNat (D.2.1 6 k)) : ∃ f', f_X7_standAsTold 27 (f, g) = some (f', g) ∧ RT D (D.1 1) f' ∧ f' 27 8 = Int32.ofNat (D.1 3) ∧ f' 27 9 = 0 ∧ f' 27 10 = Int32.ofNat (D.1 4) ∧ ∀ a, ¬ (27 ≤ a ∧ a < 35) → f' a = f a := by
  obtain ⟨f1, a1, a2, a3⟩ := c_rem (s := 27) (g := g) (K := fun h5 => lp_X7_standAsTold_21 27 (fun h19 => jn_X7_standAsTold_91 27 h19) 4000 0 h5) 8 3991 0 f (by decide) (fun k hk => absurd hk (by omega))
  obtain ⟨f2, b1, b2, b3⟩ := c_told (D := D) (g := g) hn (K := fun h19 => jn_X7_standAsTold_91 27 h19) (D.1 1) (3999 - D.1 1) 0 f1 (by omega) (by rw [a3 4 (by decide)]; exact h7) (fun k hk => by rw [a3 6 (by decide), a3 7 (by decide), a3 8 (by decide), a3 9 (by decide)]; exact ha k hk) (fun k hk => by
    obtain ⟨z1, z2, z3, z4, z5, z6, z7⟩ := a2 k hk hk
    rw [if_neg (by omega), if_neg (by omega), if_neg (by omega), if_neg (by omega)]
    exact ⟨z1, z2, z3, z4, z5, z6, z7⟩)
  have e4 : f2 4 = f 4 := by rw [b3 4 (by decide), a3 4 (by decide)]
  let f3 := am_u2 (am_u2 (am_u2 f2 27 8 (Int32.ofNat (D.1 3))) 27 9 0) 27 10 (Int32.ofNat (D.1 4))
  have f3a : ∀ a, a ≠ 27 → f3 a = f2 a := fun a z => by show am_u2 (am_u2 (am_u2 _ _ _ _) _ _ _) _ _ _ a = _; rw [u2_ne z, u2_ne z, u2_ne z]
  refine ⟨f3, ?_, fun k hk => by rw [f3a 28 (by decide), f3a 29 (by decide), f3a 30 (by decide), f3a 31 (by decide), f3a 32 (by decide), f3a 33 (by decide), f3a 34 (by decide)]; exact b2 k hk, ?_, ?_, au_same, fun a z => by rw [f3a a (by omega), b3 a (by omega), a3 a (by omega)]⟩
  · unfold f_X7_standAsTold
    rw [show 3999 - D.1 1 + D.1 1 + 1 = 4000 by omega] at b1
    refine Eq.trans a1 (Eq.trans b1 ?_)
    show jn_X7_standAsTold_91 27 (f2, g) = _
    unfold jn_X7_standAsTold_91
    rw [bndv (show f2 4 9 = Int32.ofNat (D.1 3) by rw [e4]; exact h9), ptIp, ptIp, bndv (show am_u2 (am_u2 f2 27 8 (Int32.ofNat (D.1 3))) 27 9 0 4 10 = Int32.ofNat (D.1 4) by rw [u2_ne (by decide), u2_ne (by decide), e4]; exact h10), ptIp]
  · show am_u2 (am_u2 (am_u2 _ _ _ _) _ _ _) _ _ _ 27 8 = _
    rw [au_nk (by decide), au_nk (by decide), au_same]
  · show am_u2 (am_u2 (am_u2 _ _ _ _) _ _ _) _ _ _ 27 9 = _
    rw [au_nk (by decide), au_same]
end LA5
section LQ5
variable {D : DR}
/-- the row that both then have -/
theorem RC_told {w : Nat → Int32} {f : Nat → Nat → Int32} (hD : DV D) (h : QP D (D.1 1) (Int32.ofNat (D.1 3)) (Int32.ofNat (D.1 4)) w) (r : RT D (D.1 1) f) (h8 : f 27 8 = Int32.ofNat (D.1 3)) (h9 : f 27 9 = 0) (h10 : f 27 10 = Int32.ofNat (D.1 4)) : RC 27 w f := by
  obtain ⟨q1, q2, q3, q4⟩ := h
  refine ⟨fun t ht => ?_, by rw [h8, q2], by rw [h9, q3], by rw [h10, q4]⟩
  obtain ⟨a1, a2, a3, a4, a5, a6, a7⟩ := q1 t ht
  obtain ⟨b1, b2, b3, b4, b5, b6, b7⟩ := r t ht
  refine ⟨b1.trans a1.symm, ?_, b3.trans a3.symm, b4.trans a4.symm, b5.trans a5.symm, b6.trans a6.symm, b7.trans a7.symm⟩
  rw [show (27 : Nat) + 2 = 29 from rfl, b2, a1, a2]
  by_cases c : t < D.1 1
  · obtain ⟨d1, d2, -⟩ := hD.2.2.2.2.2.2.2.1 t c
    rw [if_pos c, if_pos c, if_pos c, if_neg (by rw [on_zero (by omega)]; omega)]
  · rw [if_neg c, if_neg c, if_pos rfl]
theorem WQ_told {w : Nat → Int32} {a c : Int32} (hD : DV D) (h : QP D (D.1 1) a c w) : WQ (D.1 0) w := by
  intro t ht
  obtain ⟨a1, a2, a3, a4, a5, a6, a7⟩ := h.1 t ht
  have hm : mk w t = if t < D.1 1 then D.2.1 5 t else 0 := by
    unfold mk
    rw [a3]
    by_cases c : t < D.1 1
    · obtain ⟨-, -, -, d4, -⟩ := hD.2.2.2.2.2.2.2.1 t c
      rw [if_pos c, if_pos c, on_nat (by omega)]
    · rw [if_neg c, if_neg c]; rfl
  refine ⟨?_, ?_, ?_, ?_, Or.inl a6, Or.inl a7⟩
  · by_cases c : t < D.1 1
    · obtain ⟨d1, d2, d3, d4, d5⟩ := hD.2.2.2.2.2.2.2.1 t c
      rw [if_pos c] at a1 a2
      right
      rw [a1, a2]
      refine ⟨(on_pos (by omega)).mpr (by omega), by rw [on_toInt (by omega)]; omega, D.2.1 4 t, d3, rfl⟩
    · rw [if_neg c] at a1 a3 a4
      left
      exact ⟨a1, a3, a4, a5⟩
  · rw [hm, a3]
    by_cases c : t < D.1 1
    · obtain ⟨-, -, -, d4, -⟩ := hD.2.2.2.2.2.2.2.1 t c
      rw [if_pos c, if_pos c]
      exact ⟨d4, rfl⟩
    · rw [if_neg c, if_neg c]
      exact ⟨by decide, rfl⟩
  · rw [a4]
    by_cases c : t < D.1 1
    · obtain ⟨-, -, -, -, d5⟩ := hD.2.2.2.2.2.2.2.1 t c
      rw [if_pos c, on_toInt (by omega)]
      omega
    · rw [if_neg c]
      decide
  · rw [a5]
    decide
theorem WL_told {w : Nat → Int32} {a c : Int32} {hold : Nat → Int32} (hD : DV D) (h : QP D (D.1 1) a c w) (hh : ∀ r, r < D.1 0 → hold r = Int32.ofNat (D.2.1 1 r)) : WL (D.1 0) hold w := by
  intro r hr
  obtain ⟨h99, hs⟩ := hD.2.2.2.2.2.2.1 r hr
  have h4 := hD.1
  have h6 := hD.2.1
  rw [hh r hr, on_toInt (by omega)]
  have key : ∀ n, n ≤ 8 → ∀ t, t < 8 → vol w r t = if t < D.1 1 ∧ D.2.1 4 t = r then (D.2.1 3 t : Int) else 0 := fun n _ t ht => by
    obtain ⟨a1, a2, -⟩ := h.1 t ht
    unfold vol qIn
    rw [a1, a2]
    by_cases c : t < D.1 1
    · obtain ⟨d1, d2, d3, d4, d5⟩ := hD.2.2.2.2.2.2.2.1 t c
      rw [if_pos c, if_pos c, on_toInt (by omega)]
      have p1 : (0 : Int32) < Int32.ofNat (D.2.1 3 t) := (on_pos (by omega)).mpr (by omega)
      have p2 := on_inj (a := D.2.1 4 t) (b := r) (by omega) (by omega)
      by_cases e : D.2.1 4 t = r
      · rw [if_pos (by rw [decide_eq_true p1, decide_eq_true (p2.mpr e)]; rfl), if_pos ⟨c, e⟩]
      · rw [if_neg (by rw [decide_eq_false (fun z => e (p2.mp z)), Bool.and_false]; decide), if_neg (fun z => e z.2)]
    · rw [if_neg c, if_neg (by rw [decide_eq_false (show ¬ (0 : Int32) < 0 by decide), Bool.false_and]; decide), if_neg (fun z => c z.1)]
  have e : ∀ t, t < 8 → vol w r t = if t < D.1 1 ∧ D.2.1 4 t = r then (D.2.1 3 t : Int) else 0 := key 8 (by decide)
  have sm : ∀ n, (smB (D.2.1 3) (D.2.1 4) r n : Int) = smB (D.2.1 3) (D.2.1 4) r n := fun _ => rfl
  have tot : sum8 (vol w r) = (smB (D.2.1 3) (D.2.1 4) r (D.1 1) : Int) := by
    have z : ∀ n, n ≤ 6 → sum8 (fun t => if t < n ∧ D.2.1 4 t = r then (D.2.1 3 t : Int) else 0) = (smB (D.2.1 3) (D.2.1 4) r n : Int) := by
      intro n
      induction n with
      | zero => intro _; simp [sum8, smB]
      | succ n ih =>
        intro hn
        have := sum8_one (g := fun t => if t < n ∧ D.2.1 4 t = r then (D.2.1 3 t : Int) else 0) (g' := fun t => if t < n + 1 ∧ D.2.1 4 t = r then (D.2.1 3 t : Int) else 0) (t := n) (by omega) (fun k hk hkn => by
          have ee : (k < n + 1) ↔ k < n := by omega
          simp only [ee])
        rw [this, ih (by omega), smB]
        rw [if_neg (fun z => absurd z.1 (by omega))]
        by_cases c : D.2.1 4 n = r
        · rw [if_pos ⟨by omega, c⟩, if_pos c]; omega
        · rw [if_neg (fun z => c z.2), if_neg c]; omega
    rw [← z (D.1 1) h6]
    exact sum8_eq (fun k hk => e k hk)
  rw [tot]
  omega
theorem HO_told {hold : Nat → Int32} (hD : DV D) (hh : ∀ r, r < D.1 0 → hold r = Int32.ofNat (D.2.1 1 r)) : HO (D.1 0) hold := by
  intro r hr
  obtain ⟨h99, -⟩ := hD.2.2.2.2.2.2.1 r hr
  rw [hh r hr, on_toInt (by omega)]
  omega
end LQ5
