/-! The model's row: what it answers of itself -/
def MP (h : am_H) (b nr : Nat) (hold : Nat → Int32) : Prop := h.1 413 32 = Int32.ofNat b ∧ b < 2 ∧ h.1 416 b = Int32.ofNat nr ∧ nr ≤ 4 ∧ ∀ r, r < nr → h.1 423 (4 * b + r) = hold r
theorem X12_isIn {x a b : Int32} {h : am_H} : f_X12_isIn x a b h = some (if x < a ∨ b < x then 0 else 1) := by
  unfold f_X12_isIn
  by_cases h1 : x < a
  · simp [h1]
  · by_cases h2 : b < x <;> simp [h1, h2]
section MQ
variable {h : am_H}
theorem not_lt_7 {x : Int32} : (7 : Int32) < x ↔ ¬ x < 8 := by
  rw [Int32.lt_iff_toInt_lt, Int32.lt_iff_toInt_lt]
  have h3 : (7 : Int32).toInt = 7 := rfl
  have h4 : (8 : Int32).toInt = 8 := rfl
  omega
theorem X12_isThere (x : Int32) : f_X12_isThere x h = some (if hs (h.1 437) x = true then 1 else 0) := by
  unfold f_X12_isThere
  rw [X12_isIn, cal_some]
  rcases i8_cases x with h1 | ⟨t, ht, rfl⟩ | ⟨h1, h2⟩
  · simp [hs, h1]
  · have hn : ¬ (Int32.ofNat t < 0 ∨ (7 : Int32) < Int32.ofNat t) := by
      rw [not_lt_7]
      have := i8_lt t ht
      have := i8_ge t (by omega)
      simp [*]
    rw [if_neg hn, if_neg (by decide), rdA0 ht, hs_on ht]
    by_cases hc : 0 < h.1 437 t <;> simp [hc]
  · have hn : Int32.ofNat 0 = (0 : Int32) := rfl
    rw [if_pos (Or.inr (not_lt_7.mpr h2)), if_pos rfl]
    simp [hs, h2]
theorem m_those : ∀ m n t a, t + m = 8 → lp_X12_those_4 h (n + m + 1) a (Int32.ofNat t) = some (fo (fun t a => if qT (h.1 437) t = true then a ||| sB t else a) m t a) := by
  intro m
  induction m with
  | zero => intro n t a ht; obtain rfl : t = 8 := by omega
            rw [lp_X12_those_4, if_neg (by decide)]; rfl
  | succ m ih =>
    intro n t a ht
    have h8 : t < 8 := by omega
    have e : ∀ a, lp_X12_those_4 h (n + (m + 1)) a (Int32.ofNat (t + 1)) = _ := fun a => ih n (t + 1) a (by omega)
    rw [lp_X12_those_4, if_pos (i8_lt t h8), rdA0 h8, i8_succ t h8, e, e, fo]
    by_cases hc : 0 < h.1 437 t <;> simp [hc, qT, sB]
theorem X12_those : f_X12_those h = some (zS (qT (h.1 437))) := m_those 8 3991 0 0 rfl
theorem m_thoseIn (x : Int32) : ∀ m n t a, t + m = 8 → lp_X12_thoseIn_4 x h (n + m + 1) a (Int32.ofNat t) = some (fo (fun t a => if qIn (h.1 437) x t = true then a ||| sB t else a) m t a) := by
  intro m
  induction m with
  | zero => intro n t a ht; obtain rfl : t = 8 := by omega
            rw [lp_X12_thoseIn_4, if_neg (by decide)]; rfl
  | succ m ih =>
    intro n t a ht
    have h8 : t < 8 := by omega
    have e : ∀ a, lp_X12_thoseIn_4 x h (n + (m + 1)) a (Int32.ofNat (t + 1)) = _ := fun a => ih n (t + 1) a (by omega)
    rw [lp_X12_thoseIn_4, if_pos (i8_lt t h8), rdA0 h8, rdA8 h8, i8_succ t h8, e, e, fo]
    by_cases hc : 0 < h.1 437 t
    · by_cases hd : h.1 437 (8 + t) = x <;> simp [hc, hd, qIn, sB]
    · simp [hc, qIn]
theorem X12_thoseIn (x : Int32) : f_X12_thoseIn x h = some (zS (qIn (h.1 437) x)) := m_thoseIn x 8 3991 0 0 rfl
theorem m_bulkOf (x : Int32) : ∀ m n t a, t + m = 8 → lp_X12_bulkOf_4 x h (n + m + 1) a (Int32.ofNat t) = some (fo (fun t a => if tb x t = true then a + h.1 437 t else a) m t a) := by
  intro m
  induction m with
  | zero => intro n t a ht; obtain rfl : t = 8 := by omega
            rw [lp_X12_bulkOf_4, if_neg (by decide)]; rfl
  | succ m ih =>
    intro n t a ht
    have h8 : t < 8 := by omega
    have e : ∀ a, lp_X12_bulkOf_4 x h (n + (m + 1)) a (Int32.ofNat (t + 1)) = _ := fun a => ih n (t + 1) a (by omega)
    rw [lp_X12_bulkOf_4, if_pos (i8_lt t h8), X12_bit, cal_some, rdA0 h8, i8_succ t h8, e, e, fo]
    by_cases hc : tb x t = true <;> simp [hc]
theorem X12_bulkOf (x : Int32) : f_X12_bulkOf x h = some (zBulk (h.1 437) x) := m_bulkOf x 8 3991 0 0 rfl
theorem X12_holdsOf {b nr : Nat} {hold : Nat → Int32} (M : MP h b nr hold) {r : Nat} (hr : r < nr) : f_X12_holdsOf (Int32.ofNat r) h = some (hold r) := by
  obtain ⟨m1, m2, m3, m4, m5⟩ := M
  unfold f_X12_holdsOf
  have e : (4 : Int32) * Int32.ofNat b + Int32.ofNat r = Int32.ofNat (4 * b + r) := by
    rw [← on_add]
    congr 1
    exact (Int32.ofNat_mul 4 b).symm
  rw [bnd_eq, m1, e, rdI_n (by omega) (by decide), m5 r hr]
theorem X12_leftIn {b nr : Nat} {hold : Nat → Int32} (M : MP h b nr hold) {r : Nat} (hr : r < nr) : f_X12_leftIn (Int32.ofNat r) h = some (zLeft hold (h.1 437) r) := by
  unfold f_X12_leftIn
  rw [X12_holdsOf M hr, cal_some, X12_thoseIn, cal_some, X12_bulkOf, cal_some]
  rfl
theorem X12_chambers {b nr : Nat} {hold : Nat → Int32} (M : MP h b nr hold) : f_X12_chambers h = some (Int32.ofNat nr) := by
  obtain ⟨m1, m2, m3, m4, m5⟩ := M
  unfold f_X12_chambers
  rw [bnd_eq, m1, rdI_n m2 (by decide), m3]
theorem m_free : ∀ m n t, t + m = 8 → lp_X12_freePlace_2 h (n + m + 1) (Int32.ofNat t) = some (fi (fun t => decide (h.1 437 t = 0)) m t) := by
  intro m
  induction m with
  | zero => intro n t ht; obtain rfl : t = 8 := by omega
            rw [lp_X12_freePlace_2, if_neg (by decide)]; rfl
  | succ m ih =>
    intro n t ht
    have h8 : t < 8 := by omega
    have e : lp_X12_freePlace_2 h (n + (m + 1)) (Int32.ofNat (t + 1)) = _ := ih n (t + 1) (by omega)
    rw [lp_X12_freePlace_2, if_pos (i8_lt t h8), rdA0 h8, i8_succ t h8, e, fi]
    by_cases hc : h.1 437 t = 0 <;> simp [hc]
theorem X12_freePlace : f_X12_freePlace h = some (zFree (h.1 437)) := m_free 8 3991 0 rfl
theorem m_marksAll : ∀ m n t a, t + m = 8 → (∀ k, k < 8 → h.1 437 k = 0 ∨ 0 < h.1 437 k) → (∀ k, k < 8 → h.1 437 k = 0 → h.1 437 (16 + k) = 0) → lp_X12_marksAll_4 h (n + m + 1) a (Int32.ofNat t) = some (fo (fun t a => a ||| h.1 437 (16 + t)) m t a) := by
  intro m
  induction m with
  | zero => intro n t a ht _ _; obtain rfl : t = 8 := by omega
            rw [lp_X12_marksAll_4, if_neg (by decide)]; rfl
  | succ m ih =>
    intro n t a ht wb wz
    have h8 : t < 8 := by omega
    have e : ∀ a, lp_X12_marksAll_4 h (n + (m + 1)) a (Int32.ofNat (t + 1)) = _ := fun a => ih n (t + 1) a (by omega) wb wz
    rw [lp_X12_marksAll_4, if_pos (i8_lt t h8), rdA0 h8, rdA16 h8, i8_succ t h8, e, e, fo]
    rcases wb t h8 with hz | hz
    · rw [wz t h8 hz, if_neg (by rw [hz]; decide)]
      simp
    · rw [if_pos hz]
theorem X12_marksAll (wb : WB (h.1 437)) (wz : ∀ k, k < 8 → h.1 437 k = 0 → h.1 437 (16 + k) = 0) : f_X12_marksAll h = some (zMarks (h.1 437)) := m_marksAll 8 3991 0 0 rfl wb wz
theorem X12_sharedBy {a b : Nat} (ha : a < 64) (hb : b < 64) : f_X12_sharedBy (Int32.ofNat a) (Int32.ofNat b) h = some (6 - Int32.ofNat (bc (a ^^^ b))) := by
  unfold f_X12_sharedBy
  have hx : a ^^^ b < 64 := Nat.xor_lt_two_pow (n := 6) ha hb
  have e : Int32.ofNat (a ^^^ b) &&& 63 = Int32.ofNat (a ^^^ b) := by
    rw [show (63 : Int32) = Int32.ofNat 63 from rfl, and_on]
    congr 1
    exact Nat.and_two_pow_sub_one_of_lt_two_pow (n := 6) hx
  rw [xor_on, e, X12_bitsOf (by omega), cal_some]
theorem X12_shared (W : WM (h.1 437)) {t o : Nat} (ht : t < 8) (ho : o < 8) : f_X12_sharedBy (h.1 437 (16 + t)) (h.1 437 (16 + o)) h = some (zSh (h.1 437) t o) := by
  rw [(W t ht).2, (W o ho).2, X12_sharedBy (W t ht).1 (W o ho).1]
  rfl
/-- the greatest of a set -/
def zBg (q : Nat → Int32) (e : Nat → Bool) : Int32 := fo (fun t i => if e t = true then (if i < 0 then Int32.ofNat t else if q i.toNatClampNeg < q t then Int32.ofNat t else i) else i) 8 0 (-1)
theorem m_biggest {e : Nat → Bool} : ∀ m n t i, t + m = 8 → (i = -1 ∨ ∃ k, k < 8 ∧ i = Int32.ofNat k) → lp_X12_biggestOf_4 (zS e) h (n + m + 1) i (Int32.ofNat t) = some (fo (fun t i => if e t = true then (if i < 0 then Int32.ofNat t else if h.1 437 i.toNatClampNeg < h.1 437 t then Int32.ofNat t else i) else i) m t i) := by
  intro m
  induction m with
  | zero => intro n t i ht _; obtain rfl : t = 8 := by omega
            rw [lp_X12_biggestOf_4, if_neg (by decide)]; rfl
  | succ m ih =>
    intro n t i ht hi
    have h8 : t < 8 := by omega
    have e1 : lp_X12_biggestOf_4 (zS e) h (n + (m + 1)) i (Int32.ofNat (t + 1)) = _ := ih n (t + 1) i (by omega) hi
    have e2 : lp_X12_biggestOf_4 (zS e) h (n + (m + 1)) (Int32.ofNat t) (Int32.ofNat (t + 1)) = _ := ih n (t + 1) (Int32.ofNat t) (by omega) (Or.inr ⟨t, h8, rfl⟩)
    rw [lp_X12_biggestOf_4, if_pos (i8_lt t h8), X12_bit, cal_some, i8_succ t h8, e1, e2, fo, tb_zS e h8]
    by_cases hc : e t = true
    · rcases hi with rfl | ⟨k, hk, rfl⟩
      · simp [hc]
      · have hk0 := i8_ge k (by omega)
        rw [rdA0 h8, rdA0 hk, if_neg hk0, i8_nat k hk]
        simp only [hc, if_true, if_neg hk0]
        rw [if_neg (by decide)]
        split <;> rfl
    · simp [hc]
theorem X12_biggestOf (e : Nat → Bool) : f_X12_biggestOf (zS e) h = some (zBg (h.1 437) e) := m_biggest 8 3991 0 (-1) rfl (Or.inl rfl)
end MQ
/-- what fo finds: nothing, or the first of the greatest -/
theorem zBg_ex (q : Nat → Int32) (e : Nat → Bool) : (zBg q e = -1 ∧ ∀ t, t < 8 → e t = false) ∨ ∃ k, k < 8 ∧ zBg q e = Int32.ofNat k ∧ e k = true := by
  have h := fo_ind (f := fun t i => if e t = true then (if i < 0 then Int32.ofNat t else if q i.toNatClampNeg < q t then Int32.ofNat t else i) else i) (P := fun n i => (i = -1 ∧ ∀ t, t < n → e t = false) ∨ ∃ k, k < 8 ∧ i = Int32.ofNat k ∧ e k = true) (fun t i ht hp => by
    by_cases hc : e t = true
    · rw [if_pos hc]
      split
      · exact Or.inr ⟨t, ht, rfl, hc⟩
      · split
        · exact Or.inr ⟨t, ht, rfl, hc⟩
        · rename_i h1 h2
          rcases hp with ⟨rfl, -⟩ | hp
          · exact absurd (by decide) h1
          · exact Or.inr hp
    · rw [if_neg hc]
      rcases hp with ⟨rfl, hp⟩ | hp
      · left
        refine ⟨rfl, fun k hk => ?_⟩
        by_cases hkt : k = t
        · subst hkt; simpa using hc
        · exact hp k (by omega)
      · exact Or.inr hp) (a := -1) (Or.inl ⟨rfl, fun t ht => by omega⟩)
  exact h
theorem zBk_Bg (q : Nat → Int32) (x b : Int32) : zBk q x b = zBg q (fun t => !decide (Int32.ofNat t = b) && qE q x t) := by
  have h : ∀ m t (p : Int32 × Int32) (i : Int32), t + m = 8 → p.1 = i → (i = -1 ∧ p.2 = 0 ∨ ∃ k, k < 8 ∧ i = Int32.ofNat k ∧ p.2 = q k ∧ 0 < q k) → (fo (fun t (p : Int32 × Int32) => if (!decide (Int32.ofNat t = b) && qE q x t && decide (p.2 < q t)) = true then (Int32.ofNat t, q t) else p) m t p).1 = fo (fun t i => if (!decide (Int32.ofNat t = b) && qE q x t) = true then (if i < 0 then Int32.ofNat t else if q i.toNatClampNeg < q t then Int32.ofNat t else i) else i) m t i := by
    intro m
    induction m with
    | zero => intro t p i ht hp _; exact hp
    | succ m ih =>
      intro t p i ht hp hi
      have h8 : t < 8 := by omega
      rw [fo, fo]
      by_cases hc : (!decide (Int32.ofNat t = b) && qE q x t) = true
      · have hq : 0 < q t := by
          simp only [Bool.and_eq_true, qE, decide_eq_true_eq] at hc
          exact hc.2.1.1
        rcases hi with ⟨rfl, h2⟩ | ⟨k, hk, rfl, h2, h3⟩
        · refine ih _ _ _ (by omega) ?_ ?_
          · simp [hc, h2, hq]
          · right
            refine ⟨t, h8, ?_, ?_, hq⟩
            · simp [hc]
            · simp [hc, h2, hq]
        · have hk0 := i8_ge k (by omega)
          refine ih _ _ _ (by omega) ?_ ?_
          · by_cases h4 : q k < q t
            · simp [hc, h2, h4, hk0, i8_nat k hk]
            · simp [hc, h2, h4, hk0, i8_nat k hk, hp]
          · by_cases h4 : q k < q t
            · right
              refine ⟨t, h8, ?_, ?_, hq⟩
              · simp [hc, hk0, i8_nat k hk, h4]
              · simp [hc, h2, h4]
            · right
              refine ⟨k, hk, ?_, ?_, h3⟩
              · simp [hc, hk0, i8_nat k hk, h4]
              · simp [hc, h2, h4]
      · refine ih _ _ _ (by omega) ?_ ?_
        · simp [hc, hp]
        · simp only [hc, Bool.false_eq_true, Bool.false_and, if_false]
          exact hi
  exact h 8 0 ((-1), 0) (-1) rfl rfl (Or.inl ⟨rfl, rfl⟩)
theorem zBk_ex (q : Nat → Int32) (x b : Int32) : (zBk q x b = -1 ∧ ∀ t, t < 8 → qE q x t = true → Int32.ofNat t = b) ∨ ∃ k, k < 8 ∧ zBk q x b = Int32.ofNat k ∧ qE q x k = true ∧ ¬ Int32.ofNat k = b := by
  rw [zBk_Bg]
  rcases zBg_ex q (fun t => !decide (Int32.ofNat t = b) && qE q x t) with ⟨h1, h2⟩ | ⟨k, hk, h1, h2⟩
  · left
    refine ⟨h1, fun t ht he => ?_⟩
    have := h2 t ht
    simpa [he] using this
  · right
    simp only [Bool.and_eq_true, Bool.not_eq_true', decide_eq_false_iff_not] at h2
    exact ⟨k, hk, h1, h2.2, h2.1⟩
