/-! Questions about now, asked of both -/
def AG {ρ : Type} (x y : Option ρ) : Prop := ∃ v, x = some v ∧ y = some v
theorem AG.of {ρ : Type} {x y : Option ρ} {v : ρ} (h1 : x = some v) (h2 : y = some v) : AG x y := ⟨v, h1, h2⟩
theorem AG.ite {ρ : Type} {c : Prop} [Decidable c] {x y x' y' : Option ρ} (h1 : AG x y) (h2 : AG x' y') : AG (if c then x else x') (if c then y else y') := by
  split
  · exact h1
  · exact h2
theorem zrt_0 {ρ : Type} {F : Option ρ} : zrt 0 F = F := rfl
theorem zrt_1 {ρ : Type} {F : Option ρ} : zrt 1 F = F := rfl
theorem rm_cases (x : Int32) {nr : Nat} (h4 : nr ≤ 4) : (∃ r, r < nr ∧ x = Int32.ofNat r) ∨ (x < 0 ∨ ¬ x < Int32.ofNat nr) := by
  by_cases h1 : x < 0
  · exact Or.inr (Or.inl h1)
  · by_cases h2 : x < Int32.ofNat nr
    · left
      rw [Int32.lt_iff_toInt_lt, on_toInt (by omega)] at h2
      rw [Int32.lt_iff_toInt_lt, ti_0] at h1
      refine ⟨x.toInt.toNat, by omega, ?_⟩
      apply Int32.toInt_inj.mp
      rw [on_toInt (by omega)]
      omega
    · exact Or.inr (Or.inr h2)
theorem X4_noRoom {h : am_H} {nr : Nat} {hold : Nat → Int32} (P : PC h nr hold) {x : Int32} (hx : x < 0 ∨ ¬ x < Int32.ofNat nr) : f_X4_hasRoom_4 x h = some 0 := by
  unfold f_X4_hasRoom_4
  rw [bnd_eq, P.1]
  by_cases h1 : x < 0
  · rw [if_pos h1]
  · rw [if_neg h1, if_neg (hx.elim (fun z => absurd z h1) id)]
theorem last_lt {nr : Nat} (h4 : nr ≤ 4) {x : Int32} : (Int32.ofNat nr - 1) < x ↔ ¬ x < Int32.ofNat nr := by
  have h := on_toInt (j := nr) (by omega)
  have h1 := ti_sub (x := Int32.ofNat nr) (y := 1) (by rw [ti_1, h]; omega) (by rw [ti_1, h]; omega)
  rw [Int32.lt_iff_toInt_lt, Int32.lt_iff_toInt_lt, h1, h, ti_1]
  omega
theorem X12_isRoom {h : am_H} {b nr : Nat} {hold : Nat → Int32} (M : MP h b nr hold) {r : Nat} (hr : r < nr) : f_X12_isRoom (Int32.ofNat r) h = some 1 := by
  have h4 := M.2.2.2.1
  unfold f_X12_isRoom
  rw [X12_chambers M, cal_some, X12_isIn, cal_some, if_neg ?_, zrt_1]
  rw [last_lt h4, on_lt (by omega) (by omega)]
  have := i8_ge r (by omega)
  simp [this, hr]
theorem X12_noRoom {h : am_H} {b nr : Nat} {hold : Nat → Int32} (M : MP h b nr hold) {x : Int32} (hx : x < 0 ∨ ¬ x < Int32.ofNat nr) : f_X12_isRoom x h = some 0 := by
  have h4 := M.2.2.2.1
  unfold f_X12_isRoom
  rw [X12_chambers M, cal_some, X12_isIn, cal_some, if_pos ?_, zrt_0]
  rw [last_lt h4]
  exact hx
section QA
variable {f : Nat → Nat → Int32} {g : (Nat → Nat → Int64) × (Nat → Nat → Option Nat)} {b nr : Nat} {hold : Nat → Int32}
theorem q_room (R : RC 27 (f 437) f) (P : PC (f, g) nr hold) (M : MP (f, g) b nr hold) (x y : Int32) : AG (f_X11_room x y (f, g)) (f_X12_room x y (f, g)) := by
  have h4 := P.2.1
  have R' : RC 27 (f 437) (f, g).1 := R
  unfold f_X11_room f_X12_room
  rcases rm_cases x h4 with ⟨r, hr, rfl⟩ | hx
  · rw [X4_hasRoom P hr, X12_isRoom M hr, cal_some, cal_some, if_neg (show ¬ (1 : Int32) = 0 by decide), if_neg (show ¬ (1 : Int32) = 0 by decide)]
    rw [rdI_n (by omega) (by decide), P.2.2 r hr, X12_holdsOf M hr, cal_some, X7_leftIn P R' hr, cal_some, X12_leftIn M hr, cal_some, X7_bitsIn R', cal_some, X12_thoseIn, cal_some]
    split
    · exact AG.of rfl rfl
    · split
      · exact AG.of rfl rfl
      · split <;> exact AG.of rfl rfl
  · rw [X4_noRoom P hx, X12_noRoom M hx, cal_some, cal_some, if_pos rfl, if_pos rfl]
    exact AG.of rfl rfl
theorem q_couple (R : RC 27 (f 437) f) (W : WQ nr (f 437)) (P : PC (f, g) nr hold) (M : MP (f, g) b nr hold) (x : Int32) : AG (f_X11_couple x (f, g)) (f_X12_couple x (f, g)) := by
  have h4 := P.2.1
  have R' : RC 27 (f 437) (f, g).1 := R
  unfold f_X11_couple f_X12_couple
  rcases rm_cases x h4 with ⟨r, hr, rfl⟩ | hx
  · rw [X4_hasRoom P hr, X12_isRoom M hr, cal_some, cal_some, if_neg (show ¬ (1 : Int32) = 0 by decide), if_neg (show ¬ (1 : Int32) = 0 by decide)]
    rw [X7_coupleIn R' W.wb (r4_ne (by omega)), cal_some, X12_coupleOf (h := (f, g)) W.wp, cal_some]
    exact AG.of rfl rfl
  · rw [X4_noRoom P hx, X12_noRoom M hx, cal_some, cal_some, if_pos rfl, if_pos rfl]
    exact AG.of rfl rfl
theorem q_trunk (R : RC 27 (f 437) f) (x y : Int32) : AG (f_X11_trunk x y (f, g)) (f_X12_trunk x y (f, g)) := by
  have R' : RC 27 (f 437) (f, g).1 := R
  unfold f_X11_trunk f_X12_trunk
  rw [X7_has R', X12_isThere, cal_some, cal_some]
  simp only
  by_cases h : hs (f 437) x = true
  · rw [if_pos h, if_neg (show ¬ (1 : Int32) = 0 by decide)]
    obtain ⟨t, ht, rfl, h0⟩ := hs_ex h
    rw [rdS1 R' ht, rdS2 R' ht, rdS3 R' ht, rdS4 R' ht, rdS5 R' ht, rdS6 R' ht, rdS7 R' ht, if_neg (pos_ne h0), if_neg (show ¬ (1 : Int32) = 0 by decide)]
    rw [rdA0 ht, rdA8 ht, rdA16 ht, rdA24 ht, rdA32 ht, rdA40 ht, rdA48 ht]
    repeat' (first | exact AG.of rfl rfl | apply AG.ite)
  · rw [if_neg h, if_pos rfl]
    exact AG.of rfl rfl
theorem q_need (R : RC 27 (f 437) f) (W : WQ nr (f 437)) (x : Int32) : AG (f_X11_need x (f, g)) (f_X12_need x (f, g)) := by
  have R' : RC 27 (f 437) (f, g).1 := R
  have key : 0 ≤ x.toInt → x.toInt ≤ 30 → ∀ m n t a, t + m = 8 → AG (lp_X11_need_13 x (f, g) (n + m + 1) a (Int32.ofNat t)) (lp_X12_need_16 x (f, g) (n + m + 1) a (Int32.ofNat t)) := by
    intro b1 b2 m
    induction m with
    | zero =>
      intro n t a ht
      obtain rfl : t = 8 := by omega
      rw [lp_X11_need_13, lp_X12_need_16, if_neg (by decide), if_neg (by decide)]
      exact AG.of rfl rfl
    | succ m ih =>
      intro n t a ht
      have h8 : t < 8 := by omega
      have e : ∀ a, AG (lp_X11_need_13 x (f, g) (n + (m + 1)) a (Int32.ofNat (t + 1))) (lp_X12_need_16 x (f, g) (n + (m + 1)) a (Int32.ofNat (t + 1))) := fun a => ih n (t + 1) a (by omega)
      rw [lp_X11_need_13, lp_X12_need_16, if_pos (i8_lt t h8), if_pos (i8_lt t h8), rdS1 R' h8, rdS4 R' h8, X12_isThere, cal_some, hs_on h8, rdA24 h8, rdA24 h8, i8_succ t h8]
      simp only
      by_cases c : 0 < f 437 t
      · rw [if_pos c]
        have c' : decide (0 < f 437 t) = true := by simp [c]
        rw [if_pos c', if_neg (show ¬ (1 : Int32) = 0 by decide)]
        have hv := (W t h8).2.2.1
        have h3 := ti_sub (x := x) (y := f 437 (24 + t)) (by omega) (by omega)
        by_cases hx : f 437 (24 + t) < x
        · have h0 : 0 < x - f 437 (24 + t) := by
            rw [Int32.lt_iff_toInt_lt] at hx
            rw [ti_pos, h3]
            omega
          rw [if_pos hx, if_pos h0]
          exact e _
        · have h0 : ¬ 0 < x - f 437 (24 + t) := by
            rw [Int32.lt_iff_toInt_lt] at hx
            rw [ti_pos, h3]
            omega
          rw [if_neg hx, if_neg h0]
          exact e _
      · rw [if_neg c]
        have c' : ¬ decide (0 < f 437 t) = true := by simp [c]
        rw [if_neg c', if_pos (show (0 : Int32) = 0 from rfl), Int32.add_zero]
        exact e _
  unfold f_X11_need f_X12_need f_X11_canLieAhead
  rw [X12_isIn, cal_some]
  by_cases h1 : x < 0
  · rw [if_pos h1, cal_some, if_pos rfl, if_pos (Or.inl h1), if_pos rfl]
    exact AG.of rfl rfl
  · rw [if_neg h1]
    by_cases h2 : (30 : Int32) < x
    · rw [if_pos h2, cal_some, if_pos rfl, if_pos (Or.inr h2), if_pos rfl]
      exact AG.of rfl rfl
    · have h3 : ¬ (x < 0 ∨ (30 : Int32) < x) := fun z => z.elim h1 h2
      rw [if_neg h2, cal_some, if_neg (show ¬ (1 : Int32) = 0 by decide), if_neg h3, if_neg (show ¬ (1 : Int32) = 0 by decide)]
      rw [Int32.lt_iff_toInt_lt] at h1 h2
      have e30 : (30 : Int32).toInt = 30 := rfl
      rw [ti_0] at h1
      exact key (by omega) (by omega) 8 3991 0 0 rfl
theorem q_pining (R : RC 27 (f 437) f) : AG (f_X11_pining (f, g)) (f_X12_pining (f, g)) := by
  have R' : RC 27 (f 437) (f, g).1 := R
  have key : ∀ m n t a, t + m = 8 → AG (lp_X11_pining_4 (f, g) (n + m + 1) a (Int32.ofNat t)) (lp_X12_pining_4 (f, g) (n + m + 1) a (Int32.ofNat t)) := by
    intro m
    induction m with
    | zero =>
      intro n t a ht
      obtain rfl : t = 8 := by omega
      rw [lp_X11_pining_4, lp_X12_pining_4, if_neg (by decide), if_neg (by decide)]
      exact AG.of rfl rfl
    | succ m ih =>
      intro n t a ht
      have h8 : t < 8 := by omega
      have e : ∀ a, AG (lp_X11_pining_4 (f, g) (n + (m + 1)) a (Int32.ofNat (t + 1))) (lp_X12_pining_4 (f, g) (n + (m + 1)) a (Int32.ofNat (t + 1))) := fun a => ih n (t + 1) a (by omega)
      rw [lp_X11_pining_4, lp_X12_pining_4, if_pos (i8_lt t h8), if_pos (i8_lt t h8), rdS5 R' h8, rdA32 h8, i8_succ t h8]
      exact AG.ite (e _) (e _)
  exact key 8 3991 0 0 rfl
theorem q_litter (R : RC 27 (f 437) f) (x : Int32) : AG (f_X11_litter x (f, g)) (f_X12_litter x (f, g)) := by
  have R' : RC 27 (f 437) (f, g).1 := R
  have key : ∀ m n t a, t + m = 8 → AG (lp_X11_litter_17 x (f, g) (n + m + 1) a (Int32.ofNat t)) (lp_X12_litter_14 x (f, g) (n + m + 1) a (Int32.ofNat t)) := by
    intro m
    induction m with
    | zero =>
      intro n t a ht
      obtain rfl : t = 8 := by omega
      rw [lp_X11_litter_17, lp_X12_litter_14, if_neg (by decide), if_neg (by decide)]
      exact AG.of rfl rfl
    | succ m ih =>
      intro n t a ht
      have h8 : t < 8 := by omega
      have e : ∀ a, AG (lp_X11_litter_17 x (f, g) (n + (m + 1)) a (Int32.ofNat (t + 1))) (lp_X12_litter_14 x (f, g) (n + (m + 1)) a (Int32.ofNat (t + 1))) := fun a => ih n (t + 1) a (by omega)
      rw [lp_X11_litter_17, lp_X12_litter_14, if_pos (i8_lt t h8), if_pos (i8_lt t h8), rdS6 R' h8, rdS7 R' h8, rdA40 h8, rdA48 h8]
      unfold jn_X11_litter_49 jn_X12_litter_46
      rw [i8_succ t h8]
      exact AG.ite (e _) (AG.ite (e _) (e _))
  unfold f_X11_litter f_X12_litter
  rw [X7_has R', X12_isThere, cal_some, cal_some]
  exact AG.ite (AG.of rfl rfl) (key 8 3991 0 0 rfl)
theorem q_bearers (R : RC 27 (f 437) f) (W : WQ nr (f 437)) (x : Int32) : AG (f_X11_bearers x (f, g)) (f_X12_bearers x (f, g)) := by
  have R' : RC 27 (f 437) (f, g).1 := R
  have z0 : ∀ y : Int32, (((0 : Int32) >>> (y &&& 31)) &&& 1) = 0 := by
    intro y
    apply Int32.toBitVec_inj.mp
    rw [Int32.toBitVec_and, Int32.toBitVec_shiftRight]
    show (BitVec.sshiftRight' 0#32 _) &&& 1#32 = 0#32
    simp
  have key : ∀ m n t a, t + m = 8 → AG (lp_X6_countWith_4 27 x (f, g) (n + m + 1) a (Int32.ofNat t)) (lp_X12_bearers_15 x (f, g) (n + m + 1) a (Int32.ofNat t)) := by
    intro m
    induction m with
    | zero =>
      intro n t a ht
      obtain rfl : t = 8 := by omega
      rw [lp_X6_countWith_4, lp_X12_bearers_15, if_neg (by decide), if_neg (by decide)]
      exact AG.of rfl rfl
    | succ m ih =>
      intro n t a ht
      have h8 : t < 8 := by omega
      have e : ∀ a, AG (lp_X6_countWith_4 27 x (f, g) (n + (m + 1)) a (Int32.ofNat (t + 1))) (lp_X12_bearers_15 x (f, g) (n + (m + 1)) a (Int32.ofNat (t + 1))) := fun a => ih n (t + 1) a (by omega)
      rw [lp_X6_countWith_4, lp_X12_bearers_15, if_pos (i8_lt t h8), if_pos (i8_lt t h8), rdS3 R' h8, X12_isThere, cal_some, hs_on h8, rdA16 h8, i8_succ t h8]
      simp only
      by_cases c : 0 < f 437 t
      · have c' : decide (0 < f 437 t) = true := by simp [c]
        rw [if_pos c', if_neg (show ¬ (1 : Int32) = 0 by decide)]
        exact e _
      · have c' : ¬ decide (0 < f 437 t) = true := by simp [c]
        have hz : f 437 t = 0 := (W.wb t h8).elim id (fun z => absurd z c)
        rw [if_neg c', if_pos (show (0 : Int32) = 0 from rfl), W.wz t h8 hz, z0]
        exact e _
  unfold f_X11_bearers f_X12_bearers f_X6_countWith
  rw [X12_isIn, cal_some]
  by_cases h1 : x < 0
  · rw [if_pos h1, if_pos (Or.inl h1), if_pos rfl]
    exact AG.of rfl rfl
  · rw [if_neg h1]
    have h5 : (5 : Int32) < x ↔ ¬ x < 6 := by
      rw [Int32.lt_iff_toInt_lt, Int32.lt_iff_toInt_lt]
      have e5 : (5 : Int32).toInt = 5 := rfl
      have e6 : (6 : Int32).toInt = 6 := rfl
      omega
    by_cases h2 : x < 6
    · have h3 : ¬ (x < 0 ∨ (5 : Int32) < x) := fun z => z.elim h1 (fun z => h5.mp z h2)
      rw [if_pos h2, if_neg h3, if_neg (show ¬ (1 : Int32) = 0 by decide)]
      obtain ⟨v, k1, k2⟩ := key 8 3991 0 0 rfl
      have k1' : lp_X6_countWith_4 27 x (f, g) 4000 0 0 = some v := k1
      rw [k1', cal_some]
      exact ⟨v, rfl, k2⟩
    · rw [if_neg h2, if_pos (Or.inr (h5.mpr h2)), if_pos rfl]
      exact AG.of rfl rfl
theorem q_alike (R : RC 27 (f 437) f) (W : WQ nr (f 437)) (x y : Int32) : AG (f_X11_alike x y (f, g)) (f_X12_alike x y (f, g)) := by
  have R' : RC 27 (f 437) (f, g).1 := R
  unfold f_X11_alike f_X12_alike
  rw [X7_hasBoth R', X12_isThere, cal_some, cal_some]
  simp only
  by_cases h1 : hs (f 437) x = true
  · obtain ⟨t, ht, rfl, t0⟩ := hs_ex h1
    rw [if_pos h1, if_neg (show ¬ (1 : Int32) = 0 by decide), X12_isThere, cal_some]
    simp only
    by_cases h2 : hs (f 437) y = true
    · obtain ⟨o, ho, rfl, o0⟩ := hs_ex h2
      have hb : (qT (f 437) t && qT (f 437) o) = true := by simp [qT, t0, o0]
      rw [if_pos (show (hs (f 437) (Int32.ofNat t) && hs (f 437) (Int32.ofNat o)) = true by rw [h1, h2]; rfl), if_neg (show ¬ (1 : Int32) = 0 by decide), if_pos h2, if_neg (show ¬ (1 : Int32) = 0 by decide)]
      rw [X7_shared R' W.wm ht ho, if_pos hb, cal_some, rdA16 ht, rdA16 ho, X12_shared (h := (f, g)) W.wm ht ho, cal_some]
      exact AG.of rfl rfl
    · rw [if_neg (show ¬ (hs (f 437) (Int32.ofNat t) && hs (f 437) y) = true by simp [h2]), if_pos rfl, if_neg h2, if_pos rfl]
      exact AG.of rfl rfl
  · rw [if_neg (show ¬ (hs (f 437) x && hs (f 437) y) = true by simp [h1]), if_pos rfl, if_neg h1, if_pos rfl]
    exact AG.of rfl rfl
/-- two who are there -/
theorem X12_alikeT (W : WQ nr (f 437)) {t o : Nat} (ht : t < 8) (ho : o < 8) (t0 : 0 < f 437 t) (o0 : 0 < f 437 o) : f_X12_alike (Int32.ofNat t) (Int32.ofNat o) (f, g) = some (zSh (f 437) t o) := by
  unfold f_X12_alike
  rw [X12_isThere, cal_some, hs_on ht, X12_isThere, cal_some, hs_on ho]
  simp only
  rw [if_pos (show decide (0 < f 437 t) = true by simp [t0]), if_neg (show ¬ (1 : Int32) = 0 by decide), if_pos (show decide (0 < f 437 o) = true by simp [o0]), if_neg (show ¬ (1 : Int32) = 0 by decide)]
  rw [rdA16 ht, rdA16 ho, X12_shared (h := (f, g)) W.wm ht ho, cal_some]
theorem sh_b {q : Nat → Int32} (W : WM q) {t o : Nat} (ht : t < 8) (ho : o < 8) : 0 ≤ (zSh q t o).toInt ∧ (zSh q t o).toInt ≤ 6 := by
  have h : ∀ n : Fin 64, 0 ≤ ((6 : Int32) - Int32.ofNat (bc n.val)).toInt ∧ ((6 : Int32) - Int32.ofNat (bc n.val)).toInt ≤ 6 := by decide +kernel
  exact h ⟨mk q t ^^^ mk q o, Nat.xor_lt_two_pow (n := 6) (W t ht).1 (W o ho).1⟩
end QA
