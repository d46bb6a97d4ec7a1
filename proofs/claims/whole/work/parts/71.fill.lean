/-! Fill, on both sides -/
theorem zBulk_b {nr : Nat} {q : Nat → Int32} (W : WQ nr q) (s : Int32) : 0 ≤ (zBulk q s).toInt ∧ (zBulk q s).toInt ≤ 160 := by
  unfold zBulk
  rw [fo_sum (e := tb s) (fun t ht => W.le ht)]
  have := sum8_b (g := fun t => if tb s t = true then (q t).toInt else 0) (n := 20) (fun k hk => by
    have := W.le hk
    split <;> omega)
  omega
theorem zBulk_0 (q : Nat → Int32) : zBulk q 0 = 0 := by
  unfold zBulk
  have h : ∀ t : Fin 8, tb 0 t.val = false := by decide +kernel
  exact fo_id 8 0 0 (fun k _ h2 x => by
    rw [if_neg]
    have := h ⟨k, by omega⟩
    simp only at this
    rw [this]
    decide)
section QI
variable {f : Nat → Nat → Int32} {g : (Nat → Nat → Int64) × (Nat → Nat → Option Nat)} {b nr : Nat} {hold : Nat → Int32}
theorem cm_fill (R : RC 27 (f 437) f) (W : WQ nr (f 437)) (H : HO nr hold) (M : MP (f, g) b nr hold) {r : Nat} (hr : r < nr) {x2 : Int32} {k : Int32 → Option Int32} : ∀ m n v s, v + m = 256 → s < 256 → ∃ s', s' < 256 ∧ lp_X8_fullest_40 27 (hold r) (zS (qT (f 437))) (f, g) (n + m + 1) (Int32.ofNat s) (zBulk (f 437) (Int32.ofNat s)) (Int32.ofNat v) = some (Int32.ofNat s') ∧ lp_X12_fill_24 (Int32.ofNat r) x2 (f, g) k (n + m + 1) (Int32.ofNat s) (Int32.ofNat v) = k (Int32.ofNat s') := by
  have R' : RC 27 (f 437) (f, g).1 := R
  have one : ¬ (1 : Int32) = 0 := by decide
  have hh := H r hr
  intro m
  induction m with
  | zero =>
    intro n v s hv hs
    obtain rfl : v = 256 := by omega
    rw [lp_X8_fullest_40, lp_X12_fill_24, if_neg (by decide), if_neg (by decide)]
    exact ⟨s, hs, rfl, rfl⟩
  | succ m ih =>
    intro n v s hv hs
    have h256 : v < 256 := by omega
    have hl : Int32.ofNat v < 256 := by
      rw [show (256 : Int32) = Int32.ofNat 256 from rfl, on_lt (by omega) (by omega)]
      exact h256
    have bs := zBulk_b W (Int32.ofNat s)
    have bv := zBulk_b W (Int32.ofNat v)
    have keep : ∃ s', s' < 256 ∧ lp_X8_fullest_40 27 (hold r) (zS (qT (f 437))) (f, g) (n + (m + 1)) (Int32.ofNat s) (zBulk (f 437) (Int32.ofNat s)) (Int32.ofNat (v + 1)) = some (Int32.ofNat s') ∧ lp_X12_fill_24 (Int32.ofNat r) x2 (f, g) k (n + (m + 1)) (Int32.ofNat s) (Int32.ofNat (v + 1)) = k (Int32.ofNat s') := ih n (v + 1) s (by omega) hs
    have take : ∃ s', s' < 256 ∧ lp_X8_fullest_40 27 (hold r) (zS (qT (f 437))) (f, g) (n + (m + 1)) (Int32.ofNat v) (zBulk (f 437) (Int32.ofNat v)) (Int32.ofNat (v + 1)) = some (Int32.ofNat s') ∧ lp_X12_fill_24 (Int32.ofNat r) x2 (f, g) k (n + (m + 1)) (Int32.ofNat v) (Int32.ofNat (v + 1)) = k (Int32.ofNat s') := ih n (v + 1) v (by omega) h256
    rw [lp_X8_fullest_40, lp_X12_fill_24, if_pos hl, if_pos hl, X12_those, cal_some, X7_bulkOf R', cal_some]
    unfold jn_X8_fullest_68 jn_X8_fullest_94 jn_X8_fullest_95
    rw [J6_on h256, cal_some, J6_on hs, cal_some, X12_bulkOf, cal_some, X12_holdsOf M hr, cal_some, X12_bulkOf, cal_some, cal_some, X12_bitsOf h256, cal_some, X12_bitsOf hs, cal_some, on_succ]
    simp only [cal_some, if_true]
    by_cases c : (Int32.ofNat v &&& (zS (qT (f 437)) ^^^ ((-1) : Int32))) = 0
    · rw [if_pos c, if_pos c]
      have dd := ti_sub (x := zBulk (f 437) (Int32.ofNat v)) (y := zBulk (f 437) (Int32.ofNat s)) (by omega) (by omega)
      by_cases c1 : hold r < zBulk (f 437) (Int32.ofNat v)
      · simp only [if_pos c1]
        by_cases c2 : zBulk (f 437) (Int32.ofNat v) = zBulk (f 437) (Int32.ofNat s)
        · rw [if_pos c2]
          split <;> exact keep
        · rw [if_neg c2]
          exact keep
      · simp only [if_neg c1]
        by_cases c2 : zBulk (f 437) (Int32.ofNat v) = zBulk (f 437) (Int32.ofNat s)
        · have c3 : ¬ zBulk (f 437) (Int32.ofNat s) < zBulk (f 437) (Int32.ofNat v) := by
            rw [c2, Int32.lt_iff_toInt_lt]; omega
          have c4 : ¬ 0 < zBulk (f 437) (Int32.ofNat v) - zBulk (f 437) (Int32.ofNat s) := by
            rw [ti_pos, dd, c2]; omega
          have c5 : zBulk (f 437) (Int32.ofNat v) - zBulk (f 437) (Int32.ofNat s) = 0 := by
            rw [ti_zero, dd, c2]; omega
          rw [if_pos c2, if_neg c4, if_pos c5]
          simp only [if_neg c3, if_neg one]
          by_cases c6 : Int32.ofNat (bc v) < Int32.ofNat (bc s)
          · rw [if_pos c6, if_pos c6]
            exact take
          · rw [if_neg c6, if_neg c6]
            exact keep
        · have c5 : ¬ zBulk (f 437) (Int32.ofNat v) - zBulk (f 437) (Int32.ofNat s) = 0 := by
            rw [ti_zero, dd]
            intro z
            exact c2 (Int32.toInt_inj.mp (by omega))
          rw [if_neg c2]
          by_cases c3 : zBulk (f 437) (Int32.ofNat s) < zBulk (f 437) (Int32.ofNat v)
          · have c4 : 0 < zBulk (f 437) (Int32.ofNat v) - zBulk (f 437) (Int32.ofNat s) := by
              rw [Int32.lt_iff_toInt_lt] at c3
              rw [ti_pos, dd]; omega
            rw [if_pos c3, if_pos c4]
            exact take
          · have c4 : ¬ 0 < zBulk (f 437) (Int32.ofNat v) - zBulk (f 437) (Int32.ofNat s) := by
              rw [Int32.lt_iff_toInt_lt] at c3
              rw [ti_pos, dd]; omega
            rw [if_neg c3, if_neg c4, if_neg c5]
            exact keep
    · rw [if_neg c, if_neg c]
      have e1 : (-1 : Int32).toInt = -1 := rfl
      have c2 : ¬ (-1 : Int32) = zBulk (f 437) (Int32.ofNat s) := fun z => by
        rw [← z] at bs
        omega
      have c1 : ¬ hold r < -1 := by
        rw [Int32.lt_iff_toInt_lt]; omega
      have c3 : ¬ zBulk (f 437) (Int32.ofNat s) < -1 := by
        rw [Int32.lt_iff_toInt_lt]; omega
      rw [if_neg c2, if_neg c1, if_neg c3]
      exact keep
theorem q_fill (R : RC 27 (f 437) f) (W : WQ nr (f 437)) (H : HO nr hold) (P : PC (f, g) nr hold) (M : MP (f, g) b nr hold) (x y : Int32) : AG (f_X11_fill x y (f, g)) (f_X12_fill x y (f, g)) := by
  have R' : RC 27 (f 437) (f, g).1 := R
  have one : ¬ (1 : Int32) = 0 := by decide
  have h4 := P.2.1
  unfold f_X11_fill f_X12_fill
  rcases rm_cases x h4 with ⟨r, hr, rfl⟩ | hx
  · rw [X4_hasRoom P hr, X12_isRoom M hr, cal_some, cal_some, if_neg one, if_neg one, X12_isIn, cal_some]
    by_cases hy : y < 0 ∨ (1 : Int32) < y
    · rw [if_pos hy, if_pos rfl]
      by_cases h0 : y < 0
      · rw [if_pos h0]
        exact AG.of rfl rfl
      · rw [if_neg h0, if_pos (hy.elim (fun z => absurd z h0) id)]
        exact AG.of rfl rfl
    · have y0 : ¬ y < 0 := fun z => hy (Or.inl z)
      have y1 : ¬ (1 : Int32) < y := fun z => hy (Or.inr z)
      obtain ⟨s', hs', k1, k2⟩ := cm_fill (g := g) (x2 := y) (k := fun z28 => if y = 0 then cal (f_X12_bulkOf z28 (f, g)) fun v30 => some v30 else some z28) R W H M hr 255 3744 1 0 rfl (by decide)
      rw [show (Int32.ofNat 0) = 0 from rfl, zBulk_0] at k1
      have k1' : f_X8_fullest 27 (Int32.ofNat r) (f, g) = some (Int32.ofNat s') := by
        unfold f_X8_fullest jn_X8_fullest_24
        rw [X4_hasRoom P hr, cal_some, if_neg one, rdI_n (by omega) (by decide), P.2.2 r hr, X7_bits R', cal_some]
        exact k1
      have k2' : lp_X12_fill_24 (Int32.ofNat r) y (f, g) (fun z28 => if y = 0 then cal (f_X12_bulkOf z28 (f, g)) fun v30 => some v30 else some z28) 4000 0 1 = (if y = 0 then cal (f_X12_bulkOf (Int32.ofNat s') (f, g)) fun v30 => some v30 else some (Int32.ofNat s')) := k2
      rw [if_neg y0, if_neg y1, if_neg hy, if_neg one, k1', cal_some, k2', X7_bulkOf R', cal_some, X12_bulkOf, cal_some]
      exact AG.ite (AG.of rfl rfl) (AG.of rfl rfl)
  · rw [X4_noRoom P hx, X12_noRoom M hx, cal_some, cal_some, if_pos rfl, if_pos rfl]
    exact AG.of rfl rfl
end QI
