/-! A young one: who is ripe, what comes, on both sides -/
abbrev EV : Type := Int32 → Int32 → Int32 → Int32 → Int32 → Int32
/-- the class's formula says E -/
def EC (f : Nat → Nat → Int32) (E : EV) : Prop := ∀ (f' : Nat → Nat → Int32) (g : (Nat → Nat → Int64) × (Nat → Nat → Option Nat)), f' 10 = f 10 → f' 11 = f 11 → f' 12 = f 12 → ∀ a b c d e, ∃ w, f_X2_value_10 a b c d e (f', g) = some (E a b c d e, (up f' 13 w, g))
def zBr (E : EV) (hold q : Nat → Int32) (i j : Nat) : Int32 := E (q i + q j) (zSh q i j) (zLeft hold q (rmN q i)) (Int32.ofNat (zC (qT q))) (q 57)
/-- what the model's formula leaves alone -/
def MN (f f' : Nat → Nat → Int32) : Prop := (∀ a, a ≠ 413 → a ≠ 436 → f' a = f a) ∧ ∀ k, k ≠ 38 → k ≠ 39 → f' 413 k = f 413 k
theorem MN.refl {f : Nat → Nat → Int32} : MN f f := ⟨fun _ _ _ => rfl, fun _ _ _ => rfl⟩
theorem MN.trans {f f' f'' : Nat → Nat → Int32} (h : MN f f') (h' : MN f' f'') : MN f f'' := ⟨fun a h1 h2 => (h'.1 a h1 h2).trans (h.1 a h1 h2), fun k h1 h2 => (h'.2 k h1 h2).trans (h.2 k h1 h2)⟩
/-- the model's formula says E -/
def EM (f : Nat → Nat → Int32) (b nr : Nat) (hold : Nat → Int32) (E : EV) : Prop := ∀ (f' : Nat → Nat → Int32) (g : (Nat → Nat → Int64) × (Nat → Nat → Option Nat)) (i j : Nat), f' 422 = f 422 → f' 428 = f 428 → f' 429 = f 429 → f' 432 = f 432 → f' 433 = f 433 → MP (f', g) b nr hold → WQ nr (f' 437) → i < 8 → j < 8 → 0 < f' 437 i → 0 < f' 437 j → ∃ f'', f_X12_broodOf (Int32.ofNat i) (Int32.ofNat j) (f', g) = some (zBr E hold (f' 437) i j, (f'', g)) ∧ MN f' f''
theorem X10_broodOf {s nr i j : Nat} {hold q : Nat → Int32} {E : EV} {f : Nat → Nat → Int32} {g : (Nat → Nat → Int64) × (Nat → Nat → Option Nat)} (R : RC s q f) (W : WQ nr q) (P : PC (f, g) nr hold) (e : EC f E) (hi : i < 8) (hj : j < 8) (gi : 0 < q i) (gj : 0 < q j) : ∃ w, f_X10_broodOf s (Int32.ofNat i) (Int32.ofNat j) (f, g) = some (zBr E hold q i j, (up f 13 w, g)) := by
  obtain ⟨r, hr, gr⟩ := W.room hi gi
  have hp := P.2.1
  have R' : RC s q (f, g).1 := R
  unfold f_X10_broodOf
  rw [X7_hasBoth R', cal_some, hs_on hi, hs_on hj, rdS2 R' hi, if_neg (pos_ne gi), gr, X7_leftIn P R' hr, cal_some, rdS1 R' hi, rdS1 R' hj, X7_shared R' W.wm hi hj, cal_some, X7_count R', cal_some, bnd_eq]
  have h1 : (decide (0 < q i) && decide (0 < q j)) = true := by simp [gi, gj]
  have h2 : (qT q i && qT q j) = true := h1
  rw [if_pos h1, if_neg (show ¬ (1 : Int32) = 0 by decide), if_pos h2]
  have h9 : (f, g).1 s 9 = q 57 := R.2.2.1
  rw [h9]
  obtain ⟨w, hw⟩ := e f g rfl rfl rfl (q i + q j) (zSh q i j) (zLeft hold q r) (Int32.ofNat (zC (qT q))) (q 57)
  refine ⟨w, ?_⟩
  rw [hw, cal2_some]
  unfold zBr
  rw [rmN_on gr (by omega)]
def cI (q : Nat → Int32) (r : Nat) : Nat := (zCp q (Int32.ofNat r) / 8).toNatClampNeg
def cJ (q : Nat → Int32) (r : Nat) : Nat := (zCp q (Int32.ofNat r) - zCp q (Int32.ofNat r) / 8 * 8).toNatClampNeg
def zRp (E : EV) (hold q : Nat → Int32) (r : Nat) : Bool := !decide (zCp q (Int32.ofNat r) = -1) && !decide (zFree q = -1) && !decide (zLeft hold q r < zYb (q (cI q r)) (q (cJ q r))) && decide (0 < zBr E hold q (cI q r) (cJ q r))
/-- a couple, as it is -/
theorem cp_at {q : Nat → Int32} {r : Nat} (h : ¬ zCp q (Int32.ofNat r) = -1) : ∃ i j, i < 8 ∧ j < 8 ∧ i ≠ j ∧ 0 < q i ∧ 0 < q j ∧ q (8 + i) = Int32.ofNat r ∧ q (8 + j) = Int32.ofNat r ∧ zCp q (Int32.ofNat r) = Int32.ofNat (8 * i + j) ∧ cI q r = i ∧ cJ q r = j := by
  rcases zCp_ex q (Int32.ofNat r) with h1 | ⟨i, j, hi, hj, hij, ei, ej, he⟩
  · exact absurd h1 h
  · have fi : 0 < q i ∧ q (8 + i) = Int32.ofNat r := by
      unfold qE at ei
      simp only [Bool.and_eq_true, decide_eq_true_eq] at ei
      exact ⟨ei.1.1, ei.1.2⟩
    have fj : 0 < q j ∧ q (8 + j) = Int32.ofNat r := by
      unfold qE at ej
      simp only [Bool.and_eq_true, decide_eq_true_eq] at ej
      exact ⟨ej.1.1, ej.1.2⟩
    refine ⟨i, j, hi, hj, hij, fi.1, fj.1, fi.2, fj.2, he, ?_, ?_⟩
    · unfold cI
      rw [he, cp_div hi hj, i8_nat i hi]
    · unfold cJ
      rw [he, cp_mod hi hj, i8_nat j hj]
theorem r4_ne {r : Nat} (h : r < 4) : ¬ Int32.ofNat r = -1 := i8_ne (by omega)
theorem X10_isRipe {s nr r : Nat} {hold q : Nat → Int32} {E : EV} {f : Nat → Nat → Int32} {g : (Nat → Nat → Int64) × (Nat → Nat → Option Nat)} (R : RC s q f) (W : WQ nr q) (P : PC (f, g) nr hold) (e : EC f E) (hr : r < nr) : ∃ f', f_X10_isRipe s (Int32.ofNat r) (f, g) = some (if zRp E hold q r = true then 1 else 0, (f', g)) ∧ ∀ a, a ≠ 13 → f' a = f a := by
  have hp := P.2.1
  have R' : RC s q (f, g).1 := R
  unfold f_X10_isRipe
  rw [X7_coupleIn R' W.wb (r4_ne (by omega)), cal_some]
  by_cases h1 : zCp q (Int32.ofNat r) = -1
  · rw [if_pos h1]
    refine ⟨f, ?_, fun _ _ => rfl⟩
    simp [zRp, h1]
  · rw [if_neg h1]
    obtain ⟨i, j, hi, hj, hij, gi, gj, ri, rj, he, ci, cj⟩ := cp_at h1
    rw [X7_firstFree R', cal_some]
    by_cases h2 : zFree q = -1
    · rw [if_pos h2]
      refine ⟨f, ?_, fun _ _ => rfl⟩
      simp [zRp, h2]
    · rw [if_neg h2, he, cp_mod hi hj, cp_div hi hj, X10_youngBulk R' hi hj gi gj, cal_some, X7_leftIn P R' hr, cal_some]
      by_cases h3 : zLeft hold q r < zYb (q i) (q j)
      · rw [if_pos h3]
        refine ⟨f, ?_, fun _ _ => rfl⟩
        simp [zRp, ci, cj, h3]
      · rw [if_neg h3]
        obtain ⟨w, hw⟩ := X10_broodOf R W P e hi hj gi gj
        rw [hw, cal2_some]
        refine ⟨up f 13 w, ?_, fun a ha => up_ne ha⟩
        by_cases h4 : 0 < zBr E hold q i j
        · rw [if_pos h4]
          simp [zRp, ci, cj, h1, h2, h3, h4]
        · rw [if_neg h4]
          simp [zRp, ci, cj, h4]
theorem free_lt {q : Nat → Int32} : zFree q < 0 ↔ zFree q = -1 := by
  rcases zFree_ex q with ⟨h, -⟩ | ⟨k, hk, h, -⟩
  · rw [h]; decide
  · rw [h]
    exact ⟨fun z => absurd z (i8_ge k (by omega)), fun z => absurd z (i8_ne hk)⟩
theorem X12_isRipe {b nr r : Nat} {hold : Nat → Int32} {E : EV} {f : Nat → Nat → Int32} {g : (Nat → Nat → Int64) × (Nat → Nat → Option Nat)} (M : MP (f, g) b nr hold) (W : WQ nr (f 437)) (e : EM f b nr hold E) (hr : r < nr) : ∃ f', f_X12_isRipe (Int32.ofNat r) (f, g) = some (if zRp E hold (f 437) r = true then 1 else 0, (f', g)) ∧ MN f f' := by
  have hp := M.2.2.2.1
  unfold f_X12_isRipe
  rw [X12_coupleOf (h := (f, g)) W.wp, cal_some]
  simp only
  by_cases h1 : zCp (f 437) (Int32.ofNat r) = -1
  · rw [h1, if_pos (by decide)]
    refine ⟨f, ?_, MN.refl⟩
    simp [zRp, h1]
  · obtain ⟨i, j, hi, hj, hij, gi, gj, ri, rj, he, ci, cj⟩ := cp_at h1
    rw [he, if_neg (cp_ge hi hj).1, X12_freePlace, cal_some]
    simp only
    by_cases h2 : zFree (f 437) = -1
    · rw [if_pos (free_lt.mpr h2)]
      refine ⟨f, ?_, MN.refl⟩
      simp [zRp, h2]
    · rw [if_neg (fun z => h2 (free_lt.mp z)), cp_mod hi hj, cp_div hi hj]
      obtain ⟨f', k1, k2⟩ := e f g i j rfl rfl rfl rfl rfl M W hi hj gi gj
      rw [k1, cal2_some]
      have e437 : f' 437 = f 437 := k2.1 437 (by decide) (by decide)
      have M' : MP (f', g) b nr hold := by
        unfold MP at M ⊢
        simp only at M ⊢
        rw [k2.1 416 (by decide) (by decide), k2.1 423 (by decide) (by decide), k2.2 32 (by decide) (by decide)]
        exact M
      refine ⟨f', ?_, k2⟩
      by_cases h4 : 0 < zBr E hold (f 437) i j
      · rw [if_pos h4, X12_youngOf hi hj, cal_some, X12_leftIn M' hr, cal_some]
        simp only [e437]
        by_cases h3 : zLeft hold (f 437) r < zYb (f 437 i) (f 437 j)
        · rw [if_pos h3]
          simp [zRp, ci, cj, h3]
        · rw [if_neg h3]
          simp [zRp, ci, cj, h1, h2, h3, h4]
      · rw [if_neg h4]
        simp [zRp, ci, cj, h4]
/-- the next seed; what a young one has -/
def zSd (x : Int32) : Int32 := (137 * x + 71) - (137 * x + 71) / 1000 * 1000
def zMk (q : Nat → Int32) (sd : Int32) (i j : Nat) : Int32 := (sd &&& q (16 + i)) ||| ((sd ^^^ ((-1) : Int32)) &&& q (16 + j))
def zBf (q : Nat → Int32) (i j t r : Nat) : Nat → Int32 := st (st (st (st (st (st (st (st q 58 (zSd (q 58))) t (zYb (q i) (q j))) (8 + t) (Int32.ofNat r)) (16 + t) (zMk q (zSd (q 58)) i j)) (24 + t) 0) (32 + t) 0) (40 + t) (Int32.ofNat i)) (48 + t) (Int32.ofNat j)
theorem st_id {q : Nat → Int32} {k : Nat} {v : Int32} (h : q k = v) : st q k v = q := by
  funext j
  unfold st
  by_cases e : j = k
  · rw [if_pos e, e, h]
  · rw [if_neg e]
theorem RC_w12 {s t : Nat} {q : Nat → Int32} {f : Nat → Nat → Int32} {v w : Int32} (R : RC s q f) (ht : t < 8) (h : ¬ v = 0) : RC s (st (st q t v) (8 + t) w) (am_u2 (am_u2 f (s + 1) t v) (s + 2) t w) := by
  refine ⟨fun k hk => ?_, ?_, ?_, ?_⟩
  · obtain ⟨r1, r2, r3, r4, r5, r6, r7⟩ := R.1 k hk
    by_cases e : k = t
    · subst e
      simp (disch := omega) only [au_same, au_ne, st_same, st_ne]
      rw [if_neg h]
      exact ⟨trivial, rfl, r3, r4, r5, r6, r7⟩
    · simp (disch := omega) only [au_nk, st_ne]
      exact R.1 k hk
  · simp (disch := omega) only [au_ne, st_ne]; exact R.2.1
  · simp (disch := omega) only [au_ne, st_ne]; exact R.2.2.1
  · simp (disch := omega) only [au_ne, st_ne]; exact R.2.2.2
theorem yb_b {nr i j : Nat} {q : Nat → Int32} (W : WQ nr q) (hi : i < 8) (hj : j < 8) : 1 ≤ (zYb (q i) (q j)).toInt ∧ (zYb (q i) (q j)).toInt ≤ 20 := by
  have h : ∀ a b : Fin 21, 1 ≤ (zYb (Int32.ofNat a.val) (Int32.ofNat b.val)).toInt ∧ (zYb (Int32.ofNat a.val) (Int32.ofNat b.val)).toInt ≤ 20 := by decide +kernel
  have e : ∀ k, k < 8 → ∃ a : Fin 21, q k = Int32.ofNat a.val := by
    intro k hk
    have w := W.le hk
    refine ⟨⟨(q k).toInt.toNat, by omega⟩, ?_⟩
    apply Int32.toInt_inj.mp
    rw [on_toInt (by simp only; omega)]
    simp only
    omega
  obtain ⟨a, ea⟩ := e i hi
  obtain ⟨b, eb⟩ := e j hj
  rw [ea, eb]
  exact h a b
theorem and_small {x : Int32} {m : Nat} (hm : m < 64) : ∃ n, n < 64 ∧ x &&& Int32.ofNat m = Int32.ofNat n := by
  refine ⟨x.toBitVec.toNat &&& m, Nat.lt_of_le_of_lt Nat.and_le_right hm, ?_⟩
  apply Int32.toBitVec_inj.mp
  apply BitVec.eq_of_toNat_eq
  rw [Int32.toBitVec_and, BitVec.toNat_and]
  show x.toBitVec.toNat &&& (BitVec.ofNat 32 m).toNat = (BitVec.ofNat 32 (x.toBitVec.toNat &&& m)).toNat
  rw [BitVec.toNat_ofNat, BitVec.toNat_ofNat, Nat.mod_eq_of_lt (by omega), Nat.mod_eq_of_lt (Nat.lt_of_le_of_lt Nat.and_le_right (by omega))]
theorem zMk_small {nr i j : Nat} {q : Nat → Int32} {sd : Int32} (W : WQ nr q) (hi : i < 8) (hj : j < 8) : ∃ n, n < 64 ∧ zMk q sd i j = Int32.ofNat n := by
  unfold zMk
  rw [(W.wm i hi).2, (W.wm j hj).2]
  obtain ⟨a, ha, ea⟩ := and_small (x := sd) (W.wm i hi).1
  obtain ⟨b, hb, eb⟩ := and_small (x := sd ^^^ ((-1) : Int32)) (W.wm j hj).1
  rw [ea, eb, or_on]
  exact ⟨a ||| b, Nat.or_lt_two_pow (n := 6) ha hb, rfl⟩
theorem WQ_bf {nr i j t r : Nat} {q : Nat → Int32} (W : WQ nr q) (hi : i < 8) (hj : j < 8) (ht : t < 8) (hr : r < nr) : WQ nr (zBf q i j t r) := by
  intro k hk
  by_cases e : k = t
  · subst e
    obtain ⟨n, hn, en⟩ := zMk_small (sd := zSd (q 58)) W hi hj
    have hy := yb_b W hi hj
    have hm : zBf q i j k r (16 + k) = Int32.ofNat n := by
      unfold zBf
      simp (disch := omega) only [st_same, st_ne]
      exact en
    have hmk : mk (zBf q i j k r) k = n := by
      unfold mk
      rw [hm, on_nat (by omega)]
    unfold WT
    rw [hmk, hm]
    unfold zBf
    simp (disch := omega) only [st_same, st_ne]
    exact ⟨Or.inr ⟨by rw [ti_pos]; omega, hy.2, r, hr, rfl⟩, ⟨hn, trivial⟩, by decide, by decide, Or.inr ⟨i, hi, rfl⟩, Or.inr ⟨j, hj, rfl⟩⟩
  · refine WT_cong ?_ ?_ ?_ ?_ ?_ ?_ ?_ (W k hk) <;> (unfold zBf; simp (disch := omega) only [st_ne])
theorem WL_bf {nr i j t r : Nat} {hold q : Nat → Int32} (h4 : nr ≤ 4) (H : HO nr hold) (W : WQ nr q) (L : WL nr hold q) (hi : i < 8) (hj : j < 8) (ht : t < 8) (hr : r < nr) (h0 : q t = 0) (hy : ¬ zLeft hold q r < zYb (q i) (q j)) : WL nr hold (zBf q i j t r) := by
  intro r' hr'
  have l := L r' hr'
  have hb := yb_b W hi hj
  rw [sum8_one (g := vol q r') (t := t) ht (fun k hk hkt => by
    unfold vol qIn zBf
    simp (disch := omega) only [st_ne])]
  have e0 : vol q r' t = 0 := by
    unfold vol qIn
    rw [h0]
    simp
  have ev : vol (zBf q i j t r) r' t = if r' = r then (zYb (q i) (q j)).toInt else 0 := by
    have g1 : zBf q i j t r t = zYb (q i) (q j) := by
      unfold zBf
      simp (disch := omega) only [st_same, st_ne]
    have g2 : zBf q i j t r (8 + t) = Int32.ofNat r := by
      unfold zBf
      simp (disch := omega) only [st_same, st_ne]
    have g3 : 0 < zYb (q i) (q j) := by rw [ti_pos]; omega
    unfold vol qIn
    rw [g1, g2]
    by_cases e : r' = r
    · subst e; simp [g3]
    · have : ¬ Int32.ofNat r = Int32.ofNat r' := fun z => e ((on_inj (by omega) (by omega)).mp z).symm
      simp [this, e]
  rw [ev, e0]
  by_cases e : r' = r
  · subst e
    rw [if_pos rfl]
    rw [Int32.lt_iff_toInt_lt, left_eq H W hr] at hy
    omega
  · rw [if_neg e]
    omega
