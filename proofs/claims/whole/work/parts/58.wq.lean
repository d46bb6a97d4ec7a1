/-! What holds of every row; how much is left in a room -/
theorem ti_add {x y : Int32} (h1 : -2147483648 ≤ x.toInt + y.toInt) (h2 : x.toInt + y.toInt < 2147483648) : (x + y).toInt = x.toInt + y.toInt := by
  rw [Int32.toInt_add]
  simp only [Int.bmod]
  omega
theorem ti_sub {x y : Int32} (h1 : -2147483648 ≤ x.toInt - y.toInt) (h2 : x.toInt - y.toInt < 2147483648) : (x - y).toInt = x.toInt - y.toInt := by
  rw [Int32.toInt_sub]
  simp only [Int.bmod]
  omega
theorem ti_0 : (0 : Int32).toInt = 0 := rfl
theorem ti_1 : (1 : Int32).toInt = 1 := rfl
theorem ti_pos {x : Int32} : 0 < x ↔ 0 < x.toInt := by rw [Int32.lt_iff_toInt_lt]; rfl
theorem ti_zero {x : Int32} : x = 0 ↔ x.toInt = 0 := by rw [← Int32.toInt_inj]; rfl
def wpar (x : Int32) : Prop := x = -1 ∨ ∃ j, j < 8 ∧ x = Int32.ofNat j
def WT (nr : Nat) (q : Nat → Int32) (t : Nat) : Prop :=
  ((q t = 0 ∧ q (16 + t) = 0 ∧ q (24 + t) = 0 ∧ q (32 + t) = 0) ∨ (0 < q t ∧ (q t).toInt ≤ 20 ∧ ∃ r, r < nr ∧ q (8 + t) = Int32.ofNat r)) ∧ (mk q t < 64 ∧ q (16 + t) = Int32.ofNat (mk q t)) ∧ (0 ≤ (q (24 + t)).toInt ∧ (q (24 + t)).toInt ≤ 9) ∧ (0 ≤ (q (32 + t)).toInt ∧ (q (32 + t)).toInt ≤ 9) ∧ wpar (q (40 + t)) ∧ wpar (q (48 + t))
def WQ (nr : Nat) (q : Nat → Int32) : Prop := ∀ t, t < 8 → WT nr q t
theorem WT_cong {nr t : Nat} {q q' : Nat → Int32} (h0 : q' t = q t) (h1 : q' (8 + t) = q (8 + t)) (h2 : q' (16 + t) = q (16 + t)) (h3 : q' (24 + t) = q (24 + t)) (h4 : q' (32 + t) = q (32 + t)) (h5 : q' (40 + t) = q (40 + t)) (h6 : q' (48 + t) = q (48 + t)) (W : WT nr q t) : WT nr q' t := by
  unfold WT mk at W ⊢
  rw [h0, h1, h2, h3, h4, h5, h6]
  exact W
theorem WQ.wb {nr : Nat} {q : Nat → Int32} (W : WQ nr q) : WB q := fun t ht => (W t ht).1.elim (fun h => Or.inl h.1) (fun h => Or.inr h.1)
theorem WQ.wm {nr : Nat} {q : Nat → Int32} (W : WQ nr q) : WM q := fun t ht => (W t ht).2.1
theorem WQ.wp {nr : Nat} {q : Nat → Int32} (W : WQ nr q) : WP q := fun t ht => by
  have := (W t ht).2.2.2.1.1
  rw [ti_zero, ti_pos]
  omega
theorem WQ.wz {nr : Nat} {q : Nat → Int32} (W : WQ nr q) : ∀ k, k < 8 → q k = 0 → q (16 + k) = 0 := fun k hk h => (W k hk).1.elim (fun z => z.2.1) (fun z => absurd h (pos_ne z.1))
theorem WQ.room {nr t : Nat} {q : Nat → Int32} (W : WQ nr q) (ht : t < 8) (h : 0 < q t) : ∃ r, r < nr ∧ q (8 + t) = Int32.ofNat r := (W t ht).1.elim (fun z => absurd z.1 (pos_ne h)) (fun z => z.2.2)
theorem WQ.le {nr t : Nat} {q : Nat → Int32} (W : WQ nr q) (ht : t < 8) : 0 ≤ (q t).toInt ∧ (q t).toInt ≤ 20 := (W t ht).1.elim (fun z => by rw [z.1]; decide) (fun z => ⟨by have := ti_pos.mp z.1; omega, z.2.1⟩)
theorem mk_st {q : Nat → Int32} {k t : Nat} {v : Int32} (h : 16 + t ≠ k) : mk (st q k v) t = mk q t := by
  unfold mk
  rw [st_ne h]
theorem WQ_w4 {nr t : Nat} {q : Nat → Int32} {v : Int32} (W : WQ nr q) (ht : t < 8) (h0 : 0 < q t) (hv : 0 ≤ v.toInt ∧ v.toInt ≤ 9) : WQ nr (st q (24 + t) v) := by
  intro k hk
  by_cases e : k = t
  · subst e
    have w := W k hk
    unfold WT
    rw [mk_st (by omega)]
    simp (disch := omega) only [st_same, st_ne]
    exact ⟨w.1.elim (fun z => absurd z.1 (pos_ne h0)) Or.inr, w.2.1, hv, w.2.2.2⟩
  · refine WT_cong ?_ ?_ ?_ ?_ ?_ ?_ ?_ (W k hk) <;> exact st_ne (by omega)
theorem WQ_w5 {nr t : Nat} {q : Nat → Int32} {v : Int32} (W : WQ nr q) (ht : t < 8) (h0 : 0 < q t) (hv : 0 ≤ v.toInt ∧ v.toInt ≤ 9) : WQ nr (st q (32 + t) v) := by
  intro k hk
  by_cases e : k = t
  · subst e
    have w := W k hk
    unfold WT
    rw [mk_st (by omega)]
    simp (disch := omega) only [st_same, st_ne]
    exact ⟨w.1.elim (fun z => absurd z.1 (pos_ne h0)) Or.inr, w.2.1, w.2.2.1, hv, w.2.2.2.2⟩
  · refine WT_cong ?_ ?_ ?_ ?_ ?_ ?_ ?_ (W k hk) <;> exact st_ne (by omega)
theorem WQ_w1 {nr t : Nat} {q : Nat → Int32} {v : Int32} (W : WQ nr q) (ht : t < 8) (h0 : 0 < q t) (hv : 0 < v) (hv2 : v.toInt ≤ 20) : WQ nr (st q t v) := by
  intro k hk
  by_cases e : k = t
  · subst e
    have w := W k hk
    unfold WT
    rw [mk_st (by omega)]
    simp (disch := omega) only [st_same, st_ne]
    exact ⟨Or.inr ⟨hv, hv2, w.1.elim (fun z => absurd z.1 (pos_ne h0)) (fun z => z.2.2)⟩, w.2⟩
  · refine WT_cong ?_ ?_ ?_ ?_ ?_ ?_ ?_ (W k hk) <;> exact st_ne (by omega)
theorem WQ_w2 {nr t r : Nat} {q : Nat → Int32} (W : WQ nr q) (ht : t < 8) (h0 : 0 < q t) (hr : r < nr) : WQ nr (st q (8 + t) (Int32.ofNat r)) := by
  intro k hk
  by_cases e : k = t
  · subst e
    have w := W k hk
    unfold WT
    rw [mk_st (by omega)]
    simp (disch := omega) only [st_same, st_ne]
    exact ⟨Or.inr ⟨h0, (W.le hk).2, r, hr, rfl⟩, w.2⟩
  · refine WT_cong ?_ ?_ ?_ ?_ ?_ ?_ ?_ (W k hk) <;> exact st_ne (by omega)
theorem WQ_n {nr j : Nat} {q : Nat → Int32} {v : Int32} (W : WQ nr q) (hj : 56 ≤ j) : WQ nr (st q j v) := by
  intro k hk
  refine WT_cong ?_ ?_ ?_ ?_ ?_ ?_ ?_ (W k hk) <;> exact st_ne (by omega)
theorem wpar_lose {x : Int32} {t : Nat} (h : wpar x) : wpar (if x = Int32.ofNat t then -1 else x) := by
  split
  · exact Or.inl rfl
  · exact h
theorem WQ_lose {nr t : Nat} {q : Nat → Int32} (W : WQ nr q) (ht : t < 8) : WQ nr (zLose t q) := by
  intro k hk
  have w := W k hk
  by_cases e : k = t
  · subst e
    unfold WT mk
    rw [zLose_z (by omega), zLose_z (j := 16 + k) (by omega), zLose_z (j := 24 + k) (by omega), zLose_z (j := 32 + k) (by omega), zLose_p (j := 40 + k) ht (by omega), zLose_p (j := 48 + k) ht (by omega), if_pos (Or.inl rfl), if_pos (Or.inr rfl)]
    exact ⟨Or.inl ⟨rfl, rfl, rfl, rfl⟩, by decide, by decide, by decide, Or.inl rfl, Or.inl rfl⟩
  · unfold WT mk
    rw [zLose_o (by omega) (by omega) (by omega), zLose_o (j := 8 + k) (by omega) (by omega) (by omega), zLose_o (j := 16 + k) (by omega) (by omega) (by omega), zLose_o (j := 24 + k) (by omega) (by omega) (by omega), zLose_o (j := 32 + k) (by omega) (by omega) (by omega), zLose_p (j := 40 + k) ht (by omega), zLose_p (j := 48 + k) ht (by omega)]
    rw [if_neg (show ¬ (40 + k = 40 + t ∨ 40 + k = 48 + t) by omega), if_neg (show ¬ (48 + k = 40 + t ∨ 48 + k = 48 + t) by omega)]
    exact ⟨w.1, w.2.1, w.2.2.1, w.2.2.2.1, wpar_lose w.2.2.2.2.1, wpar_lose w.2.2.2.2.2⟩
/-- eight numbers added -/
def sum8 (g : Nat → Int) : Int := g 0 + g 1 + g 2 + g 3 + g 4 + g 5 + g 6 + g 7
theorem sum8_one {g g' : Nat → Int} {t : Nat} (ht : t < 8) (h : ∀ k, k < 8 → k ≠ t → g' k = g k) : sum8 g' = sum8 g - g t + g' t := by
  unfold sum8
  have h0 := h 0 (by decide)
  have h1 := h 1 (by decide)
  have h2 := h 2 (by decide)
  have h3 := h 3 (by decide)
  have h4 := h 4 (by decide)
  have h5 := h 5 (by decide)
  have h6 := h 6 (by decide)
  have h7 := h 7 (by decide)
  match t, ht with
  | 0, _ => rw [h1 (by decide), h2 (by decide), h3 (by decide), h4 (by decide), h5 (by decide), h6 (by decide), h7 (by decide)]; omega
  | 1, _ => rw [h0 (by decide), h2 (by decide), h3 (by decide), h4 (by decide), h5 (by decide), h6 (by decide), h7 (by decide)]; omega
  | 2, _ => rw [h0 (by decide), h1 (by decide), h3 (by decide), h4 (by decide), h5 (by decide), h6 (by decide), h7 (by decide)]; omega
  | 3, _ => rw [h0 (by decide), h1 (by decide), h2 (by decide), h4 (by decide), h5 (by decide), h6 (by decide), h7 (by decide)]; omega
  | 4, _ => rw [h0 (by decide), h1 (by decide), h2 (by decide), h3 (by decide), h5 (by decide), h6 (by decide), h7 (by decide)]; omega
  | 5, _ => rw [h0 (by decide), h1 (by decide), h2 (by decide), h3 (by decide), h4 (by decide), h6 (by decide), h7 (by decide)]; omega
  | 6, _ => rw [h0 (by decide), h1 (by decide), h2 (by decide), h3 (by decide), h4 (by decide), h5 (by decide), h7 (by decide)]; omega
  | 7, _ => rw [h0 (by decide), h1 (by decide), h2 (by decide), h3 (by decide), h4 (by decide), h5 (by decide), h6 (by decide)]; omega
theorem sum8_le {g g' : Nat → Int} (h : ∀ k, k < 8 → g' k ≤ g k) : sum8 g' ≤ sum8 g := by
  unfold sum8
  have h0 := h 0 (by decide)
  have h1 := h 1 (by decide)
  have h2 := h 2 (by decide)
  have h3 := h 3 (by decide)
  have h4 := h 4 (by decide)
  have h5 := h 5 (by decide)
  have h6 := h 6 (by decide)
  have h7 := h 7 (by decide)
  omega
theorem sum8_eq {g g' : Nat → Int} (h : ∀ k, k < 8 → g' k = g k) : sum8 g' = sum8 g := by
  unfold sum8
  rw [h 0 (by decide), h 1 (by decide), h 2 (by decide), h 3 (by decide), h 4 (by decide), h 5 (by decide), h 6 (by decide), h 7 (by decide)]
/-- a fold of additions, as a sum -/
theorem fo_sum {e : Nat → Bool} {q : Nat → Int32} (hq : ∀ t, t < 8 → 0 ≤ (q t).toInt ∧ (q t).toInt ≤ 20) : (fo (fun t a => if e t = true then a + q t else a) 8 0 0).toInt = sum8 (fun t => if e t = true then (q t).toInt else 0) := by
  have h : ∀ (m t : Nat) (a : Int32) (b : Int), t + m = 8 → a.toInt = b → 0 ≤ b → b ≤ 20 * t → (fo (fun t a => if e t = true then a + q t else a) m t a).toInt = fo (fun t b => b + (if e t = true then (q t).toInt else 0)) m t b := by
    intro m
    induction m with
    | zero => intro t a b _ h _ _; exact h
    | succ m ih =>
      intro t a b ht hab h1 h2
      rw [fo, fo]
      obtain ⟨q1, q2⟩ := hq t (by omega)
      by_cases hc : e t = true
      · rw [if_pos hc, if_pos hc]
        refine ih (t + 1) _ _ (by omega) ?_ (by omega) (by omega)
        rw [ti_add (by omega) (by omega), hab]
      · rw [if_neg hc, if_neg hc]
        exact ih (t + 1) _ _ (by omega) (by omega) (by omega) (by omega)
  rw [h 8 0 0 0 rfl rfl (by decide) (by decide)]
  simp only [fo, sum8, Nat.zero_add, Nat.reduceAdd, Int.zero_add]
def vol (q : Nat → Int32) (r t : Nat) : Int := if qIn q (Int32.ofNat r) t = true then (q t).toInt else 0
theorem zBulk_S {q : Nat → Int32} {e : Nat → Bool} : zBulk q (zS e) = fo (fun t a => if e t = true then a + q t else a) 8 0 0 := by
  unfold zBulk
  exact fo8 (fun k hk x => by rw [tb_zS e hk])
theorem vol_le {nr : Nat} {q : Nat → Int32} (W : WQ nr q) (r : Nat) {t : Nat} (ht : t < 8) : 0 ≤ vol q r t ∧ vol q r t ≤ 20 := by
  have := W.le ht
  unfold vol
  split <;> omega
theorem sum8_b {g : Nat → Int} {n : Int} (h : ∀ k, k < 8 → 0 ≤ g k ∧ g k ≤ n) : 0 ≤ sum8 g ∧ sum8 g ≤ 8 * n := by
  unfold sum8
  have h0 := h 0 (by decide)
  have h1 := h 1 (by decide)
  have h2 := h 2 (by decide)
  have h3 := h 3 (by decide)
  have h4 := h 4 (by decide)
  have h5 := h 5 (by decide)
  have h6 := h 6 (by decide)
  have h7 := h 7 (by decide)
  omega
/-- a house's rooms hold from 0 to 99 -/
def HO (nr : Nat) (hold : Nat → Int32) : Prop := ∀ r, r < nr → 0 ≤ (hold r).toInt ∧ (hold r).toInt ≤ 99
theorem left_eq {nr : Nat} {hold q : Nat → Int32} (H : HO nr hold) (W : WQ nr q) {r : Nat} (hr : r < nr) : (zLeft hold q r).toInt = (hold r).toInt - sum8 (vol q r) := by
  have h1 := H r hr
  have h2 := sum8_b (g := vol q r) (fun k hk => vol_le W r hk)
  have h3 : (zBulk q (zS (qIn q (Int32.ofNat r)))).toInt = sum8 (vol q r) := by
    rw [zBulk_S, fo_sum (fun t ht => W.le ht)]
    rfl
  unfold zLeft
  rw [ti_sub (by omega) (by omega), h3]
def WL (nr : Nat) (hold q : Nat → Int32) : Prop := ∀ r, r < nr → sum8 (vol q r) ≤ (hold r).toInt
