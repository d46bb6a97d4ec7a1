/-! images -/
def bx (f : Nat → Nat → Int32) (i : Nat) : Nat → Int32 := fun k => f 448 (59 * i + k)
def IB (f : Nat → Nat → Int32) (g : (Nat → Nat → Int64) × (Nat → Nat → Option Nat)) (nr : Nat) (hold : Nat → Int32) : Prop := ∀ i, i < 3 → g.2 375 i = some (377 + 8 * i) ∧ f 376 i = f 449 i ∧ (f 449 i = 0 ∨ RC (377 + 8 * i) (bx f i) f ∧ WR nr hold (bx f i))
theorem IB_frame {f f' : Nat → Nat → Int32} {g g' : (Nat → Nat → Int64) × (Nat → Nat → Option Nat)} {nr : Nat} {hold : Nat → Int32} (hf : ∀ a, 376 ≤ a → a < 401 → f' a = f a) (h8 : f' 448 = f 448) (h9 : f' 449 = f 449) (hg : ∀ i, i < 3 → g'.2 375 i = g.2 375 i) (B : IB f g nr hold) : IB f' g' nr hold := fun i hi => by
  obtain ⟨b1, b2, b3⟩ := B i hi
  refine ⟨by rw [hg i hi]; exact b1, by rw [hf 376 (by decide) (by decide), h9]; exact b2, ?_⟩
  rw [h9]
  rcases b3 with b3 | ⟨b3, b4⟩
  · exact Or.inl b3
  · have : bx f' i = bx f i := by unfold bx; rw [h8]
    rw [this]
    exact Or.inr ⟨RC_frame (fun a z1 z2 => hf a (by omega) (by omega)) b3, b4⟩
theorem b3_cases (x : Int32) : (∃ i, i < 3 ∧ x = Int32.ofNat i ∧ ¬ x < 0 ∧ x < 3 ∧ ¬ (x < 0 ∨ (2 : Int32) < x)) ∨ ((x < 0 ∨ ¬ x < 3) ∧ (x < 0 ∨ (2 : Int32) < x)) := by
  rcases i8_cases x with h | ⟨t, ht, rfl⟩ | ⟨h1, h2⟩
  · exact Or.inr ⟨Or.inl h, Or.inl h⟩
  · by_cases h3 : t < 3
    · refine Or.inl ⟨t, h3, rfl, nneg (by omega), ?_, fun z => z.elim (nneg (by omega)) ?_⟩
      · rw [show (3 : Int32) = Int32.ofNat 3 from rfl, on_lt (by omega) (by omega)]; exact h3
      · rw [show (2 : Int32) = Int32.ofNat 2 from rfl, on_lt (by omega) (by omega)]; omega
    · refine Or.inr ⟨Or.inr ?_, Or.inr ?_⟩
      · rw [show (3 : Int32) = Int32.ofNat 3 from rfl, on_lt (by omega) (by omega)]; exact h3
      · rw [show (2 : Int32) = Int32.ofNat 2 from rfl, on_lt (by omega) (by omega)]; omega
  · rw [Int32.lt_iff_toInt_lt] at h1 h2
    refine Or.inr ⟨Or.inr ?_, Or.inr ?_⟩
    · rw [Int32.lt_iff_toInt_lt]
      have : (8 : Int32).toInt = 8 := rfl
      have : (3 : Int32).toInt = 3 := rfl
      omega
    · rw [Int32.lt_iff_toInt_lt]
      have : (8 : Int32).toInt = 8 := rfl
      have : (2 : Int32).toInt = 2 := rfl
      omega
section BX
variable {f : Nat → Nat → Int32} {g : (Nat → Nat → Int64) × (Nat → Nat → Option Nat)} {b nr : Nat} {hold : Nat → Int32} {E : EV} {lim : Int32}
theorem m_image {i : Nat} (hi : i < 3) {k : am_H → Option (Int32 × am_H)} (q : Nat → Int32) : ∀ m n t (f : Nat → Nat → Int32), t + m = 59 → f 437 = q → ∃ w, lp_X12_image_13 (Int32.ofNat i) k (n + m + 1) (Int32.ofNat t) (f, g) = k (up f 448 w, g) ∧ (∀ j, ¬ (59 * i + t ≤ j ∧ j < 59 * i + 59) → w j = f 448 j) ∧ ∀ j, t ≤ j → j < 59 → w (59 * i + j) = q j := by
  intro m
  induction m with
  | zero =>
    intro n t f ht hq
    obtain rfl : t = 59 := by omega
    rw [lp_X12_image_13, if_neg (by decide)]
    exact ⟨f 448, by rw [up_self], fun _ _ => rfl, fun j h1 h2 => by omega⟩
  | succ m ih =>
    intro n t f ht hq
    have h8 : t < 59 := by omega
    rw [lp_X12_image_13, if_pos (lt59 h8), rdI_n h8 (by decide), ix59, wrI_n (by omega) (by decide), on_succ]
    obtain ⟨w, a1, a2, a3⟩ := ih n (t + 1) (am_u2 f 448 (59 * i + t) (f 437 t)) (by omega) (by rw [u2_ne (by decide)]; exact hq)
    rw [show up (am_u2 f 448 (59 * i + t) (f 437 t)) 448 w = up f 448 w by rw [u2_up, up_up]] at a1
    refine ⟨w, a1, fun j hj => ?_, fun j h1 h2 => ?_⟩
    · rw [a2 j (by omega), au_nk (by omega)]
    · by_cases e : j = t
      · subst e; rw [a2 _ (by omega), au_same, hq]
      · exact a3 j (by omega) h2
theorem m_takeb {i : Nat} (hi : i < 3) {k : am_H → Option (Int32 × am_H)} (q : Nat → Int32) : ∀ m n t (f : Nat → Nat → Int32), t + m = 59 → f 448 = q → ∃ w, lp_X12_back_22 (Int32.ofNat i) k (n + m + 1) (Int32.ofNat t) (f, g) = k (up f 437 w, g) ∧ (∀ j, j < t → w j = f 437 j) ∧ ∀ j, t ≤ j → j < 59 → w j = q (59 * i + j) := by
  intro m
  induction m with
  | zero =>
    intro n t f ht hq
    obtain rfl : t = 59 := by omega
    rw [lp_X12_back_22, if_neg (by decide)]
    exact ⟨f 437, by rw [up_self], fun _ _ => rfl, fun j h1 h2 => by omega⟩
  | succ m ih =>
    intro n t f ht hq
    have h8 : t < 59 := by omega
    rw [lp_X12_back_22, if_pos (lt59 h8), ix59, rdI_n (by omega) (by decide), wrI_n h8 (by decide), on_succ]
    obtain ⟨w, a1, a2, a3⟩ := ih n (t + 1) (am_u2 f 437 t (f 448 (59 * i + t))) (by omega) (by rw [u2_ne (by decide)]; exact hq)
    rw [show up (am_u2 f 437 t (f 448 (59 * i + t))) 437 w = up f 437 w by rw [u2_up, up_up]] at a1
    refine ⟨w, a1, fun j hj => ?_, fun j h1 h2 => ?_⟩
    · rw [a2 j (by omega), au_nk (by omega)]
    · by_cases e : j = t
      · subst e; rw [a2 _ (by omega), au_same, hq]
      · exact a3 j (by omega) h2
theorem vn1 : vp_nar .boolean 1 = 1 := by decide
theorem vn0 : vp_nar .boolean 0 = 0 := by decide
theorem q_image (h : HI f g b nr hold E lim) (W : WR nr hold (f 437)) (B : IB f g nr hold) (x : Int32) : ∃ v f1 f2, f_X11_image x (f, g) = some (v, (f1, g)) ∧ f_X12_image x (f1, g) = some (v, (f2, g)) ∧ (∀ a, ¬ (376 ≤ a ∧ a < 401) → f1 a = f a) ∧ (∀ a, a ≠ 448 → a ≠ 449 → f2 a = f1 a) ∧ IB f2 g nr hold := by
  have R := h.1
  have one : ¬ (1 : Int32) = 0 := by decide
  rcases b3_cases x with ⟨i, hi, rfl, z1, z2, z3⟩ | ⟨z1, z2⟩
  · obtain ⟨B1, B2, B3⟩ := B i hi
    obtain ⟨f1, a1, a2, a3⟩ := X7_copyFrom (g := g) (d := 377 + 8 * i) (s := 27) (Or.inr (by omega)) R
    have q1 : f1 437 = f 437 := a3 437 (by omega)
    obtain ⟨w, c1, c2, c3⟩ := m_image (g := g) hi (k := fun h8 => wrI h8 449 3 (Int32.ofNat i) (vp_nar .boolean 1) fun h10 => rdI h10 437 59 57 fun v13 => some (v13, h10)) (f 437) 59 3940 0 (am_u2 f1 376 i 1) rfl (by rw [u2_ne (by decide)]; exact q1)
    refine ⟨f 437 57, am_u2 f1 376 i 1, am_u2 (up (am_u2 f1 376 i 1) 448 w) 449 i 1, ?_, ?_, fun a z => ?_, fun a z1 z2 => by rw [u2_ne z2, up_ne z1], fun j hj => ?_⟩
    · unfold f_X11_image f_X1_put
      rw [if_neg z1, if_pos z2, rdR_n (h := (f, g)) hi (by decide) B1, a1, cal_some, wrI_n hi (by decide), cal2_some, if_neg one, bnd_eq]
      simp only [vn1]
      rw [u2_ne (by decide), a3 27 (by omega), R.2.2.1]
    · unfold f_X12_image
      rw [X12_isIn, cal_some, if_neg z3, if_neg one]
      have c1' : lp_X12_image_13 (Int32.ofNat i) (fun h8 => wrI h8 449 3 (Int32.ofNat i) (vp_nar .boolean 1) fun h10 => rdI h10 437 59 57 fun v13 => some (v13, h10)) 4000 0 (am_u2 f1 376 i 1, g) = _ := c1
      rw [c1', wrI_n hi (by decide), show (57 : Int32) = Int32.ofNat 57 from rfl, rdAk (by decide)]
      simp only [vn1]
      rw [u2_ne (by decide), up_ne (by decide), u2_ne (by decide), q1]
    · rw [u2_ne (by omega), a3 a (by omega)]
    · obtain ⟨C1, C2, C3⟩ := B j hj
      refine ⟨C1, ?_, ?_⟩
      · by_cases e : j = i
        · subst e; rw [au_same, u2_ne (by decide), up_ne (by decide), au_same]
        · rw [u2_ne (by decide), up_ne (by decide), au_nk (by omega), a3 376 (by omega), au_nk (by omega), up_ne (by decide), u2_ne (by decide), a3 449 (by omega)]
          exact C2
      · by_cases e : j = i
        · subst e
          refine Or.inr ⟨?_, ?_⟩
          · refine RC_59 (fun k hk => ?_) (RC_frame (fun a z1 z2 => by rw [u2_ne (by omega), up_ne (by omega), u2_ne (by omega)]) a2)
            unfold bx
            rw [u2_ne (by decide), up_same]
            exact c3 k (Nat.zero_le _) hk
          · refine WR_59 (fun k hk => ?_) W
            unfold bx
            rw [u2_ne (by decide), up_same]
            exact c3 k (Nat.zero_le _) hk
        · have ebx : ∀ k, k < 59 → bx (am_u2 (up (am_u2 f1 376 i 1) 448 w) 449 i 1) j k = bx f j k := fun k hk => by
            unfold bx
            rw [u2_ne (by decide), up_same, c2 _ (by omega), u2_ne (by decide), a3 448 (by omega)]
          rw [au_nk (by omega), up_ne (by decide), u2_ne (by decide), a3 449 (by omega)]
          rcases C3 with C3 | ⟨C3, C4⟩
          · exact Or.inl C3
          · exact Or.inr ⟨RC_59 ebx (RC_frame (fun a z1 z2 => by rw [u2_ne (by omega), up_ne (by omega), u2_ne (by omega), a3 a (by omega)]) C3), WR_59 ebx C4⟩
  · refine ⟨-1, f, f, ?_, ?_, fun _ _ => rfl, fun _ _ _ => rfl, B⟩
    · unfold f_X11_image f_X1_put
      by_cases e : x < 0
      · rw [if_pos e]; unfold jn_X1_put_18; rw [cal2_some, if_pos rfl]
      · rw [if_neg e, if_neg (z1.elim (fun z => absurd z e) id)]; unfold jn_X1_put_18; rw [cal2_some, if_pos rfl]
    · unfold f_X12_image
      rw [X12_isIn, cal_some, if_pos z2, if_pos rfl]
/-- acts begin anew -/
theorem X0_begin {f : Nat → Nat → Int32} {pi : Nat → Nat} {q : Nat → Int32} (G : GR g pi) (R : RC 27 q f) : ∃ f', f_X0_begin 27 (f, g) = some (f', g) ∧ f' 44 1 = 0 ∧ f' 44 2 = 0 ∧ RC (46 + 8 * pi 0) q f' ∧ ∀ a, a ≠ 44 → ¬ (46 ≤ a ∧ a < 374) → f' a = f a := by
  obtain ⟨f', a1, a2, a3⟩ := X0_write (f := am_u2 (am_u2 f 44 1 0) 44 2 0) (g := g) G (i := 0) (by decide) (RC_frame (fun a h1 h2 => by rw [u2_ne (by omega), u2_ne (by omega)]) R)
  have hp := (G.1 0 (by decide)).2
  refine ⟨f', ?_, ?_, ?_, a2, fun a z1 z2 => ?_⟩
  · unfold f_X0_begin
    rw [ptI_eq, ptI_eq]
    simp only
    have a1' : f_X0_write 0 27 (am_u2 (am_u2 f 44 1 0) 44 2 0, g) = _ := a1
    rw [a1', cal_some]
  · rw [a3 44 (by omega), au_nk (by decide), au_same]
  · rw [a3 44 (by omega), au_same]
  · rw [a3 a (by omega), u2_ne z1, u2_ne z1]
theorem IA_begin {f : Nat → Nat → Int32} {pi : Nat → Nat} (G : GR g pi) (h1 : f 44 1 = 0) (h2 : f 44 2 = 0) (h3 : f 413 44 = 0) (h4 : f 413 45 = 0) (R : RC (46 + 8 * pi 0) (f 437) f) : IA f g nr hold := by
  refine ⟨pi, 0, 0, G, Nat.le_refl _, by decide, h1, h2, h3, h4, fun i hi => ?_, fun i hi => absurd hi (by omega)⟩
  obtain rfl : i = 0 := by omega
  unfold rowAt
  rw [if_neg (by decide), if_pos rfl]
  exact R
theorem q_back (h : HI f g b nr hold E lim) (W : WR nr hold (f 437)) (A : IA f g nr hold) (B : IB f g nr hold) (x : Int32) : AK f g b nr hold E lim (f_X11_back x) (f_X12_back x) := by
  have one : ¬ (1 : Int32) = 0 := by decide
  rcases b3_cases x with ⟨i, hi, rfl, z1, z2, z3⟩ | ⟨z1, z2⟩
  · obtain ⟨B1, B2, B3⟩ := B i hi
    by_cases e : f 449 i = 0
    · refine AK.same (v := -1) h W A ?_ ?_
      · unfold f_X11_back f_X1_take
        rw [if_neg z1, if_pos z2, rdI_n hi (by decide)]
        simp only [B2]
        rw [if_pos e]; unfold jn_X1_take_27; rw [cal2_some, if_pos rfl]
      · unfold f_X12_back
        rw [X12_isIn, cal_some, if_neg z3, if_neg one, rdI_n hi (by decide)]
        simp only
        rw [if_pos e]
    · obtain ⟨R, W'⟩ := B3.resolve_left e
      obtain ⟨pi, d, a, G, -⟩ := A
      obtain ⟨f1, a1, a2, a3⟩ := X7_copyFrom (g := g) (d := 27) (s := 377 + 8 * i) (Or.inl (by omega)) R
      obtain ⟨f2, b1, b2, b3, b4, b5⟩ := X0_begin (g := g) G a2
      have f2m : ∀ a, ¬ (27 ≤ a ∧ a < 35) → a ≠ 44 → ¬ (46 ≤ a ∧ a < 374) → f2 a = f a := fun a z1 z2 z3 => by rw [b5 a z2 z3, a3 a (by omega)]
      obtain ⟨w, c1, c2, c3⟩ := m_takeb (g := g) hi (k := fun h9 => ptI h9 413 44 0 fun h11 => ptI h11 413 45 0 fun h14 => rdI h14 437 59 57 fun v17 => some (v17, h14)) (f 448) 59 3940 0 f2 rfl (f2m 448 (by decide) (by decide) (by decide))
      have hp := (G.1 0 (by decide)).2
      have r437 : ∀ k, k < 59 → am_u2 (am_u2 (up f2 437 w) 413 44 0) 413 45 0 437 k = bx f i k := fun k hk => by
        rw [u2_ne (by decide), u2_ne (by decide), up_same]
        exact c3 k (Nat.zero_le _) hk
      have f3m : ∀ a, a ≠ 413 → a ≠ 437 → am_u2 (am_u2 (up f2 437 w) 413 44 0) 413 45 0 a = f2 a := fun a z1 z2 => by rw [u2_ne z1, u2_ne z1, up_ne z2]
      have f3k : ∀ k, k ≠ 44 → k ≠ 45 → am_u2 (am_u2 (up f2 437 w) 413 44 0) 413 45 0 413 k = f2 413 k := fun k z1 z2 => by rw [au_nk z2, au_nk z1, up_ne (by decide)]
      have W3 := WR_59 r437 W'
      refine ⟨bx f i 57, f2, g, am_u2 (am_u2 (up f2 437 w) 413 44 0) 413 45 0, ?_, ?_, fun a z1 z2 z3 z4 => f2m a (by omega) z3 z4, fun a z1 z2 z3 z4 => f3m a z1 z3, fun k z1 z2 z3 z4 => f3k k z3 z4, rfl, fun _ _ => rfl, HI_of h (fun a z => ?_) ?_ ?_ ?_ W3.1 W3.2.1, W3, IA_begin G ?_ ?_ ?_ ?_ ?_⟩
      · unfold f_X11_back f_X1_take
        rw [if_neg z1, if_pos z2, rdI_n hi (by decide)]
        simp only [B2]
        rw [if_neg e, rdR_n (h := (f, g)) hi (by decide) B1, a1, cal_some, cal2_some, if_neg one, b1, cal_some, bnd_eq]
        simp only
        rw [b5 27 (by decide) (by decide), a2.2.2.1]
      · unfold f_X12_back
        rw [X12_isIn, cal_some, if_neg z3, if_neg one, rdI_n hi (by decide)]
        simp only
        have e2 : ¬ f2 449 i = 0 := by rw [f2m 449 (by decide) (by decide) (by decide)]; exact e
        rw [if_neg e2]
        have c1' : lp_X12_back_22 (Int32.ofNat i) (fun h9 => ptI h9 413 44 0 fun h11 => ptI h11 413 45 0 fun h14 => rdI h14 437 59 57 fun v17 => some (v17, h14)) 4000 0 (f2, g) = _ := c1
        rw [c1', ptI_eq, ptI_eq, show (57 : Int32) = Int32.ofNat 57 from rfl, rdAk (by decide)]
        simp only
        rw [r437 57 (by decide)]
      · rw [f3m a (by omega) (by omega), f2m a (by omega) (by omega) (by omega)]
      · rw [f3k 32 (by decide) (by decide), f2m 413 (by decide) (by decide) (by decide)]
      · rw [f3k 42 (by decide) (by decide), f2m 413 (by decide) (by decide) (by decide)]
      · exact RC_59 r437 (RC_frame (fun a z1 z2 => by rw [f3m a (by omega) (by omega), b5 a (by omega) (by omega)]) a2)
      · rw [f3m 44 (by decide) (by decide)]; exact b2
      · rw [f3m 44 (by decide) (by decide)]; exact b3
      · rw [au_nk (by decide), au_same]
      · rw [au_same]
      · exact RC_59 r437 (RC_frame (fun a z1 z2 => by rw [f3m a (by omega) (by omega)]) b4)
  · refine AK.same (v := -1) h W A ?_ ?_
    · unfold f_X11_back f_X1_take
      by_cases e : x < 0
      · rw [if_pos e]; unfold jn_X1_take_27; rw [cal2_some, if_pos rfl]
      · rw [if_neg e, if_neg (z1.elim (fun z => absurd z e) id)]; unfold jn_X1_take_27; rw [cal2_some, if_pos rfl]
    · unfold f_X12_back
      rw [X12_isIn, cal_some, if_pos z2, if_pos rfl]
end BX
