/-! held, untell, later -/
theorem on_sub2 {n : Nat} (h : n ≤ 6) : Int32.ofNat n - 2 = Int32.ofNat n - 1 - 1 := by
  have k : ∀ n : Fin 7, Int32.ofNat n.val - 2 = Int32.ofNat n.val - 1 - 1 := by decide
  exact k ⟨n, by omega⟩
theorem ot_cases (x : Int32) {n : Nat} (hn : n ≤ 6) : (∃ i, i + 1 < n ∧ x = Int32.ofNat i ∧ ¬ x < 0 ∧ x < Int32.ofNat n - 1 ∧ ¬ (x < 0 ∨ Int32.ofNat n - 2 < x)) ∨ ((x < 0 ∨ ¬ x < Int32.ofNat n - 1) ∧ (x < 0 ∨ Int32.ofNat n - 2 < x)) := by
  by_cases h : n = 0
  · subst h
    refine Or.inr ?_
    by_cases c : x < 0
    · exact ⟨Or.inl c, Or.inl c⟩
    · rw [Int32.lt_iff_toInt_lt, ti_0] at c
      refine ⟨Or.inr ?_, Or.inr ?_⟩
      · rw [Int32.lt_iff_toInt_lt, show (Int32.ofNat 0 - 1).toInt = -1 from rfl]; omega
      · rw [Int32.lt_iff_toInt_lt, show (Int32.ofNat 0 - 2).toInt = -2 from rfl]; omega
  · rw [on_sub2 hn, on_pred (by omega)]
    rcases i_cases x (n - 1) (by omega) with ⟨i, hi, z⟩ | z
    · exact Or.inl ⟨i, by omega, z⟩
    · exact Or.inr z
section MJ
variable {f : Nat → Nat → Int32} {g : (Nat → Nat → Int64) × (Nat → Nat → Option Nat)} {nt b c : Nat} {tm : Nat → Nat} {k : Int32}
theorem X12_isOther (I : IMc f nt b tm c) (x : Int32) : f_X12_isOther x (f, g) = some (if x < 0 ∨ Int32.ofNat nt - 2 < x then 0 else 1) := by
  unfold f_X12_isOther
  rw [bnd_eq]
  simp only [I.2.2.2.1]
  rw [rdI_n I.2.2.1 (by decide)]
  simp only [I.2.2.2.2.1]
  rw [X12_isIn, cal_some]
  split
  · rw [zrt_0]
  · rw [zrt_1]
theorem q_held (I : IM f nt b tm) (x y z : Int32) (hz : z = 0 ∨ z = 1) : MU f g nt b tm (f_X11_held x y z) (f_X12_held x y z) := by
  have I0 := I
  obtain ⟨c, I⟩ := I
  obtain ⟨k1, k2, k3, k4, k5, k6, k7, k8, k9, k10, k11, k12⟩ := id I
  have one : ¬ (1 : Int32) = 0 := by decide
  rcases ot_cases x k2 with ⟨i, hi, rfl, z1, z2, z3⟩ | ⟨z1, z2⟩
  · by_cases hy : y < 0 ∨ (6 : Int32) < y
    · refine MU.same (v := -1) I0 ?_ ?_
      · unfold f_X11_held
        rw [if_neg z1, bnd_eq]
        simp only [k1]
        rw [if_pos z2]
        by_cases e : y < 0
        · rw [if_pos e]
        · rw [if_neg e, if_pos (hy.elim (fun z => absurd z e) id)]
      · unfold f_X12_held
        rw [X12_isOther I, cal_some, if_neg z3, if_neg one, X12_isIn, cal_some, if_pos hy, if_pos rfl]
    · have y0 : ¬ y < 0 := fun z => hy (Or.inl z)
      have y6 : ¬ (6 : Int32) < y := fun z => hy (Or.inr z)
      have hC : ∀ r, f_X3_hold (Int32.ofNat i) y z (f, g) = some r → f_X11_held (Int32.ofNat i) y z (f, g) = some r := fun r hr => by
        unfold f_X11_held
        rw [if_neg z1, bnd_eq]
        simp only [k1]
        rw [if_pos z2, if_neg y0, if_neg y6, hr, cal2_some]
      by_cases c30 : c = 30
      · refine MU.same (v := -1) I0 (hC _ ?_) ?_
        · unfold f_X3_hold
          rw [bnd_eq]
          simp only [k8]
          rw [if_neg (nneg (by omega)), if_neg (by rw [c30]; decide)]
        · unfold f_X12_held
          rw [X12_isOther I, cal_some, if_neg z3, if_neg one, X12_isIn, cal_some, if_neg hy, if_neg one, bnd_eq]
          simp only [k9]
          rw [if_pos (by rw [c30]; rfl)]
      · have hc : c < 30 := by omega
        have hl : Int32.ofNat c < 30 := by
          rw [show (30 : Int32) = Int32.ofNat 30 from rfl, on_lt (by omega) (by omega)]; exact hc
        have nl : ¬ Int32.ofNat c = 30 := by
          rw [show (30 : Int32) = Int32.ofNat 30 from rfl, on_inj (by omega) (by omega)]; omega
        have vz : vp_nar .boolean z = z := by rcases hz with h | h <;> rw [h] <;> decide
        let T := f 404 9
        let f1 := am_u2 (am_u2 (am_u2 (am_u2 (am_u2 (am_u2 f 405 c (Int32.ofNat i)) 406 c y) 407 c z) 408 c T) 410 c 0) 404 8 (Int32.ofNat (c + 1))
        let f2 := am_u2 (am_u2 (am_u2 (am_u2 (am_u2 (am_u2 f1 441 c (Int32.ofNat i)) 442 c y) 443 c z) 444 c T) 445 c (-1)) 413 55 (Int32.ofNat (c + 1))
        have w1 : ∀ a, a ≠ 405 → a ≠ 406 → a ≠ 407 → a ≠ 408 → a ≠ 410 → a ≠ 404 → f1 a = f a := fun a h1 h2 h3 h4 h5 h6 => by
          show am_u2 (am_u2 (am_u2 (am_u2 (am_u2 (am_u2 f _ _ _) _ _ _) _ _ _) _ _ _) _ _ _) _ _ _ a = f a
          rw [u2_ne h6, u2_ne h5, u2_ne h4, u2_ne h3, u2_ne h2, u2_ne h1]
        have w2 : ∀ a, a ≠ 441 → a ≠ 442 → a ≠ 443 → a ≠ 444 → a ≠ 445 → a ≠ 413 → f2 a = f1 a := fun a h1 h2 h3 h4 h5 h6 => by
          show am_u2 (am_u2 (am_u2 (am_u2 (am_u2 (am_u2 f1 _ _ _) _ _ _) _ _ _) _ _ _) _ _ _) _ _ _ a = f1 a
          rw [u2_ne h6, u2_ne h5, u2_ne h4, u2_ne h3, u2_ne h2, u2_ne h1]
        have e404 : ∀ v1 v2 v3 v4 v5 : Int32, am_u2 (am_u2 (am_u2 (am_u2 (am_u2 f 405 c v1) 406 c v2) 407 c v3) 408 c v4) 410 c v5 404 = f 404 := fun v1 v2 v3 v4 v5 => by
          rw [u2_ne (by decide), u2_ne (by decide), u2_ne (by decide), u2_ne (by decide), u2_ne (by decide)]
        have e404b : ∀ v1 v2 v3 : Int32, am_u2 (am_u2 (am_u2 f 405 c v1) 406 c v2) 407 c v3 404 = f 404 := fun v1 v2 v3 => by
          rw [u2_ne (by decide), u2_ne (by decide), u2_ne (by decide)]
        have m413 : f1 413 = f 413 := w1 413 (by decide) (by decide) (by decide) (by decide) (by decide) (by decide)
        refine ⟨Int32.ofNat c, f1, f2, hC _ ?_, ?_, fun a ha => w1 a (by omega) (by omega) (by omega) (by omega) (by omega) (by omega), fun a h1 h2 => w2 a (by omega) (by omega) (by omega) (by omega) (by omega) h1, fun k h1 h2 => ?_, c + 1, ?_, k2, k3, ?_, ?_, ?_, by omega, ?_, ?_, ?_, ?_, ?_⟩
        · unfold f_X3_hold
          rw [bnd_eq]
          simp only [k8]
          rw [if_neg (nneg (by omega)), if_pos hl, wrI_n hc (by decide), wrI_n hc (by decide), wrI_n hc (by decide), bnd_eq, wrI_n hc (by decide), wrI_n hc (by decide), bnd_eq, ptI_eq]
          simp only [vz, vn0, e404, e404b, k8, on_succ]
          rfl
        · have e1 : ∀ v1 : Int32, am_u2 f1 441 c v1 413 55 = Int32.ofNat c := fun v1 => by rw [u2_ne (by decide), m413]; exact k9
          have e2 : ∀ v1 v2 : Int32, am_u2 (am_u2 f1 441 c v1) 442 c v2 413 55 = Int32.ofNat c := fun v1 v2 => by rw [u2_ne (by decide)]; exact e1 v1
          have e3 : ∀ v1 v2 v3 : Int32, am_u2 (am_u2 (am_u2 f1 441 c v1) 442 c v2) 443 c v3 413 = f 413 := fun v1 v2 v3 => by rw [u2_ne (by decide), u2_ne (by decide), u2_ne (by decide), m413]
          have e4 : ∀ v1 v2 v3 v4 : Int32, am_u2 (am_u2 (am_u2 (am_u2 f1 441 c v1) 442 c v2) 443 c v3) 444 c v4 413 = f 413 := fun v1 v2 v3 v4 => by rw [u2_ne (by decide), e3]
          have e5 : ∀ v1 v2 v3 v4 v5 : Int32, am_u2 (am_u2 (am_u2 (am_u2 (am_u2 f1 441 c v1) 442 c v2) 443 c v3) 444 c v4) 445 c v5 413 = f 413 := fun v1 v2 v3 v4 v5 => by rw [u2_ne (by decide), e4]
          have e0 : f1 413 55 = Int32.ofNat c := by rw [m413]; exact k9
          have I1 : f_X12_isOther (Int32.ofNat i) (f1, g) = some (if Int32.ofNat i < 0 ∨ Int32.ofNat nt - 2 < Int32.ofNat i then 0 else 1) := by
            unfold f_X12_isOther
            rw [bnd_eq]
            simp only [m413, k4]
            rw [rdI_n k3 (by decide)]
            simp only [w1 417 (by decide) (by decide) (by decide) (by decide) (by decide) (by decide), k5]
            rw [X12_isIn, cal_some]
            split
            · rw [zrt_0]
            · rw [zrt_1]
          unfold f_X12_held
          rw [I1, cal_some, if_neg z3, if_neg one, X12_isIn, cal_some, if_neg hy, if_neg one, bnd_eq, bnd_eq]
          simp only [e0]
          rw [if_neg nl, wrI_n hc (by decide), bnd_eq]
          simp only [e1]
          rw [wrI_n hc (by decide), bnd_eq]
          simp only [e2]
          have fin : Int32.ofNat c + 1 - 1 = Int32.ofNat c := Int32.add_sub_cancel _ _
          rcases hz with h0 | h0
          · rw [if_pos h0, wrI_n hc (by decide), bnd_eq, bnd_eq]
            simp only [e3, k9]
            rw [wrI_n hc (by decide), bnd_eq]
            simp only [e4, k9]
            rw [wrI_n hc (by decide), bnd_eq, ptI_eq, bnd_eq]
            simp only [e5, k9, au_same, fin]
            simp only [f2, h0, on_succ, T, k10]
          · rw [if_neg (by rw [h0]; decide), wrI_n hc (by decide), bnd_eq, bnd_eq]
            simp only [e3, k9]
            rw [wrI_n hc (by decide), bnd_eq]
            simp only [e4, k9]
            rw [wrI_n hc (by decide), bnd_eq, ptI_eq, bnd_eq]
            simp only [e5, k9, au_same, fin]
            simp only [f2, h0, on_succ, T, k10]
        · show am_u2 _ 413 55 _ 413 k = _
          rw [au_nk h1, u2_ne (by decide), u2_ne (by decide), u2_ne (by decide), u2_ne (by decide), u2_ne (by decide)]
        · rw [w2 4 (by decide) (by decide) (by decide) (by decide) (by decide) (by decide), w1 4 (by decide) (by decide) (by decide) (by decide) (by decide) (by decide)]; exact k1
        · show am_u2 _ 413 55 _ 413 32 = _
          rw [au_nk (by decide), u2_ne (by decide), u2_ne (by decide), u2_ne (by decide), u2_ne (by decide), u2_ne (by decide), m413]; exact k4
        · rw [w2 417 (by decide) (by decide) (by decide) (by decide) (by decide) (by decide), w1 417 (by decide) (by decide) (by decide) (by decide) (by decide) (by decide)]; exact k5
        · rw [w2 8 (by decide) (by decide) (by decide) (by decide) (by decide) (by decide), w1 8 (by decide) (by decide) (by decide) (by decide) (by decide) (by decide), w2 426 (by decide) (by decide) (by decide) (by decide) (by decide) (by decide), w1 426 (by decide) (by decide) (by decide) (by decide) (by decide) (by decide)]; exact k6
        · rw [w2 404 (by decide) (by decide) (by decide) (by decide) (by decide) (by decide)]
          exact au_same
        · exact au_same
        · rw [w2 404 (by decide) (by decide) (by decide) (by decide) (by decide) (by decide)]
          show am_u2 _ 404 8 _ 404 9 = am_u2 _ 413 55 _ 413 56
          rw [au_nk (by decide), e404, au_nk (by decide), u2_ne (by decide), u2_ne (by decide), u2_ne (by decide), u2_ne (by decide), u2_ne (by decide), m413]
          exact k10
        · have e : f2 413 56 = f 413 56 := by
            show am_u2 _ 413 55 _ 413 56 = _
            rw [au_nk (by decide), u2_ne (by decide), u2_ne (by decide), u2_ne (by decide), u2_ne (by decide), u2_ne (by decide), m413]
          rw [e]
          exact k11
        · intro j hj
          by_cases ej : j = c
          · subst ej
            have r405 : f2 405 j = Int32.ofNat i := by simp [f2, f1, am_u2]
            have r441 : f2 441 j = Int32.ofNat i := by simp [f2, f1, am_u2]
            have r406 : f2 406 j = y := by simp [f2, f1, am_u2]
            have r442 : f2 442 j = y := by simp [f2, f1, am_u2]
            have r407 : f2 407 j = z := by simp [f2, f1, am_u2]
            have r443 : f2 443 j = z := by simp [f2, f1, am_u2]
            have r408 : f2 408 j = T := by simp [f2, f1, am_u2]
            have r444 : f2 444 j = T := by simp [f2, f1, am_u2]
            have r410 : f2 410 j = 0 := by simp [f2, f1, am_u2]
            have r445 : f2 445 j = -1 := by simp [f2, f1, am_u2]
            exact ⟨⟨i, by omega, r405, r441⟩, by rw [r406, r442], by rw [r407, r443], by rw [r408, r444], by rw [r443]; exact hz, Or.inl ⟨r410, by rw [r445]; decide⟩⟩
          · have r : ∀ a, a ≠ 404 → a ≠ 413 → f2 a j = f a j := fun a h1 h2 => by simp [f2, f1, am_u2, ej, h1, h2]
            have := k12 j (by omega)
            unfold HR at this ⊢
            rw [r 405 (by decide) (by decide), r 406 (by decide) (by decide), r 407 (by decide) (by decide), r 408 (by decide) (by decide), r 409 (by decide) (by decide), r 410 (by decide) (by decide), r 441 (by decide) (by decide), r 442 (by decide) (by decide), r 443 (by decide) (by decide), r 444 (by decide) (by decide), r 445 (by decide) (by decide)]
            exact this
  · refine MU.same (v := -1) I0 ?_ ?_
    · unfold f_X11_held
      by_cases e : x < 0
      · rw [if_pos e]
      · rw [if_neg e, bnd_eq]
        simp only [k1]
        rw [if_neg (z1.elim (fun z => absurd z e) id)]
    · unfold f_X12_held
      rw [X12_isOther I, cal_some, if_pos z2, if_pos rfl]
theorem q_untell (I : IM f nt b tm) (x : Int32) : MU f g nt b tm (f_X11_untell x) (f_X12_untell x) := by
  have I0 := I
  obtain ⟨c, I⟩ := I
  obtain ⟨k1, k2, k3, k4, k5, k6, k7, k8, k9, k10, k11, k12⟩ := id I
  have one : ¬ (1 : Int32) = 0 := by decide
  rcases i_cases x c (by omega) with ⟨i, hi, rfl, z1, z2, z3⟩ | ⟨z1, z2⟩
  · have h30 : Int32.ofNat i < 30 := by
      rw [show (30 : Int32) = Int32.ofNat 30 from rfl, on_lt (by omega) (by omega)]; omega
    obtain ⟨e1, e2, e3, e4, e5, e6⟩ := k12 i hi
    have hC : ∀ v h', f_X3_takeBack (Int32.ofNat i) (f, g) = some (v, h') → (v = 0 ∨ v = 1) → f_X11_untell (Int32.ofNat i) (f, g) = some (v, h') := fun v h' hr hv => by
      unfold f_X11_untell
      rw [hr, cal2_some]
      rcases hv with rfl | rfl
      · rw [zrt_0]
      · rw [zrt_1]
    rcases e6 with ⟨n1, n2⟩ | ⟨n1, n2, n3⟩
    · let T := f 413 56
      let f1 := am_u2 (am_u2 f 410 i 1) 409 i T
      let f2 := am_u2 f1 445 i T
      have w1 : ∀ a, a ≠ 410 → a ≠ 409 → f1 a = f a := fun a h1 h2 => by
        show am_u2 (am_u2 f _ _ _) _ _ _ a = f a
        rw [u2_ne h2, u2_ne h1]
      have w2 : ∀ a, a ≠ 410 → a ≠ 409 → a ≠ 445 → f2 a = f a := fun a h1 h2 h3 => by
        show am_u2 f1 _ _ _ a = f a
        rw [u2_ne h3, w1 a h1 h2]
      have hT : ¬ T < 0 := by rw [Int32.lt_iff_toInt_lt, ti_0]; have := k11.1; show ¬ (f 413 56).toInt < 0; omega
      refine ⟨1, f1, f2, hC _ _ ?_ (Or.inr rfl), ?_, fun a ha => w1 a (by omega) (by omega), fun a h1 h2 => by show am_u2 f1 _ _ _ a = _; exact u2_ne (by omega), fun k h1 h2 => by show am_u2 f1 _ _ _ 413 k = _; rw [u2_ne (by decide)], c, ?_⟩
      · unfold f_X3_takeBack
        rw [if_neg z1, bnd_eq]
        simp only [k8]
        rw [if_pos z2, if_pos h30, rdI_n (by omega) (by decide)]
        simp only [n1]
        rw [if_pos True.intro, wrI_n (by omega) (by decide), bnd_eq, wrI_n (by omega) (by decide)]
        simp only [vn1, u2_ne (show (404 : Nat) ≠ 410 by decide), k10]
        rfl
      · unfold f_X12_untell
        rw [bnd_eq]
        simp only [w1 413 (by decide) (by decide), k9]
        rw [X12_isIn, cal_some, if_neg z3, if_neg one, rdI_n (by omega) (by decide)]
        simp only [w1 445 (by decide) (by decide)]
        rw [if_pos n2, bnd_eq, wrI_n (by omega) (by decide)]
      · refine ⟨by rw [w2 4 (by decide) (by decide) (by decide)]; exact k1, k2, k3, by rw [w2 413 (by decide) (by decide) (by decide)]; exact k4, by rw [w2 417 (by decide) (by decide) (by decide)]; exact k5, by rw [w2 8 (by decide) (by decide) (by decide), w2 426 (by decide) (by decide) (by decide)]; exact k6, k7, by rw [w2 404 (by decide) (by decide) (by decide)]; exact k8, by rw [w2 413 (by decide) (by decide) (by decide)]; exact k9, by rw [w2 404 (by decide) (by decide) (by decide), w2 413 (by decide) (by decide) (by decide)]; exact k10, by rw [w2 413 (by decide) (by decide) (by decide)]; exact k11, fun j hj => ?_⟩
        by_cases ej : j = i
        · subst ej
          have r : ∀ a, a ≠ 409 → a ≠ 410 → a ≠ 445 → f2 a j = f a j := fun a h1 h2 h3 => by rw [w2 a h2 h1 h3]
          have r410 : f2 410 j = 1 := by simp [f2, f1, am_u2]
          have r409 : f2 409 j = T := by simp [f2, f1, am_u2]
          have r445 : f2 445 j = T := by simp [f2, f1, am_u2]
          unfold HR
          rw [r 405 (by decide) (by decide) (by decide), r 406 (by decide) (by decide) (by decide), r 407 (by decide) (by decide) (by decide), r 408 (by decide) (by decide) (by decide), r 441 (by decide) (by decide) (by decide), r 442 (by decide) (by decide) (by decide), r 443 (by decide) (by decide) (by decide), r 444 (by decide) (by decide) (by decide), r410, r409, r445]
          exact ⟨e1, e2, e3, e4, e5, Or.inr ⟨rfl, hT, rfl⟩⟩
        · have r : ∀ a, f2 a j = f a j := fun a => by simp [f2, f1, am_u2, ej]
          have := k12 j hj
          unfold HR at this ⊢
          rw [r 405, r 406, r 407, r 408, r 409, r 410, r 441, r 442, r 443, r 444, r 445]
          exact this
    · refine MU.same (v := 0) I0 (hC _ _ ?_ (Or.inl rfl)) ?_
      · unfold f_X3_takeBack
        rw [if_neg z1, bnd_eq]
        simp only [k8]
        rw [if_pos z2, if_pos h30, rdI_n (by omega) (by decide)]
        simp only [n1]
        rw [if_neg one]
      · unfold f_X12_untell
        rw [bnd_eq]
        simp only [k9]
        rw [X12_isIn, cal_some, if_neg z3, if_neg one, rdI_n (by omega) (by decide)]
        simp only
        rw [if_neg n2]
  · refine MU.same (v := 0) I0 ?_ ?_
    · unfold f_X11_untell f_X3_takeBack
      by_cases e : x < 0
      · rw [if_pos e, cal2_some, zrt_0]
      · rw [if_neg e, bnd_eq]
        simp only [k8]
        rw [if_neg (z1.elim (fun z => absurd z e) id), cal2_some, zrt_0]
    · unfold f_X12_untell
      rw [bnd_eq]
      simp only [k9]
      rw [X12_isIn, cal_some, if_pos z2, if_pos rfl]
theorem q_later (I : IM f nt b tm) (x : Int32) : MU f g nt b tm (f_X11_later x) (f_X12_later x) := by
  have I0 := I
  obtain ⟨c, I⟩ := I
  obtain ⟨k1, k2, k3, k4, k5, k6, k7, k8, k9, k10, k11, k12⟩ := id I
  have one : ¬ (1 : Int32) = 0 := by decide
  by_cases hx : x < 0 ∨ (1000 : Int32) < x
  · refine MU.same (v := -1) I0 ?_ ?_
    · unfold f_X11_later
      by_cases e : x < 0
      · rw [if_pos e]
      · rw [if_neg e, if_pos (hx.elim (fun z => absurd z e) id)]
    · unfold f_X12_later
      rw [X12_isIn, cal_some, if_pos hx, if_pos rfl]
  · have x0 : ¬ x < 0 := fun z => hx (Or.inl z)
    have x1 : ¬ (1000 : Int32) < x := fun z => hx (Or.inr z)
    have i0 := x0
    have i1 := x1
    rw [Int32.lt_iff_toInt_lt, ti_0] at i0
    rw [Int32.lt_iff_toInt_lt, show (1000 : Int32).toInt = 1000 from rfl] at i1
    have s1 : ((100000 : Int32) - x).toInt = 100000 - x.toInt := ti_sub (by rw [show (100000 : Int32).toInt = 100000 from rfl]; omega) (by rw [show (100000 : Int32).toInt = 100000 from rfl]; omega)
    have s2 : (f 413 56 + x).toInt = (f 413 56).toInt + x.toInt := ti_add (by omega) (by omega)
    have hiff : (100000 : Int32) - x < f 413 56 ↔ (100000 : Int32) < f 413 56 + x := by
      rw [Int32.lt_iff_toInt_lt, Int32.lt_iff_toInt_lt, s1, s2, show (100000 : Int32).toInt = 100000 from rfl]; omega
    by_cases cc : (100000 : Int32) < f 413 56 + x
    · refine MU.same (v := -1) I0 ?_ ?_
      · unfold f_X11_later
        rw [if_neg x0, if_neg x1, bnd_eq]
        simp only [k10]
        rw [if_pos (hiff.mpr cc)]
      · unfold f_X12_later
        rw [X12_isIn, cal_some, if_neg hx, if_neg one, bnd_eq]
        simp only
        rw [if_pos cc]
    · have w1 : ∀ a, a ≠ 404 → am_u2 f 404 9 (f 413 56 + x) a = f a := fun a h => u2_ne h
      have w2 : ∀ a, a ≠ 404 → a ≠ 413 → am_u2 (am_u2 f 404 9 (f 413 56 + x)) 413 56 (f 413 56 + x) a = f a := fun a h1 h2 => by rw [u2_ne h2, u2_ne h1]
      have wk : ∀ k, k ≠ 56 → am_u2 (am_u2 f 404 9 (f 413 56 + x)) 413 56 (f 413 56 + x) 413 k = f 413 k := fun k h => by rw [au_nk h, u2_ne (by decide)]
      refine ⟨f 413 56 + x, am_u2 f 404 9 (f 413 56 + x), am_u2 (am_u2 f 404 9 (f 413 56 + x)) 413 56 (f 413 56 + x), ?_, ?_, fun a ha => w1 a (by omega), fun a h1 h2 => u2_ne h1, fun k h1 h2 => au_nk h2, c, ?_⟩
      · unfold f_X11_later
        rw [if_neg x0, if_neg x1, bnd_eq]
        simp only [k10]
        rw [if_neg (fun z => cc (hiff.mp z)), bnd_eq, ptI_eq, bnd_eq]
        simp only [k10, au_same]
      · unfold f_X12_later
        rw [X12_isIn, cal_some, if_neg hx, if_neg one, bnd_eq]
        simp only [w1 413 (by decide)]
        rw [if_neg cc, bnd_eq, ptI_eq, bnd_eq]
        simp only [au_same]
      · refine ⟨by rw [w2 4 (by decide) (by decide)]; exact k1, k2, k3, by rw [wk 32 (by decide)]; exact k4, by rw [w2 417 (by decide) (by decide)]; exact k5, by rw [w2 8 (by decide) (by decide), w2 426 (by decide) (by decide)]; exact k6, k7, by rw [u2_ne (by decide), au_nk (by decide)]; exact k8, by rw [wk 55 (by decide)]; exact k9, by rw [u2_ne (by decide), au_same, au_same], ?_, fun j hj => ?_⟩
        · rw [au_same, s2]
          rw [Int32.lt_iff_toInt_lt, s2, show (100000 : Int32).toInt = 100000 from rfl] at cc
          omega
        · have := k12 j hj
          unfold HR at this ⊢
          rw [w2 405 (by decide) (by decide), w2 406 (by decide) (by decide), w2 407 (by decide) (by decide), w2 408 (by decide) (by decide), w2 409 (by decide) (by decide), w2 410 (by decide) (by decide), w2 441 (by decide) (by decide), w2 442 (by decide) (by decide), w2 443 (by decide) (by decide), w2 444 (by decide) (by decide), w2 445 (by decide) (by decide)]
          exact this
end MJ
