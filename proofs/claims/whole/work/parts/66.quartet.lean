/-! Quartet and sires -/
section QD
variable {f : Nat → Nat → Int32} {g : (Nat → Nat → Int64) × (Nat → Nat → Option Nat)} {b nr : Nat} {hold : Nat → Int32}
theorem qu_none (R : RC 27 (f 437) f) {x1 x2 x3 x4 x5 : Int32} (y0 : Int32) (h : (hs (f 437) x1 && hs (f 437) x2 && (hs (f 437) x3 && hs (f 437) x4)) = false ∨ x5 < 0 ∨ (1 : Int32) < x5 ∨ y0 = 0) : jn_X11_quartet_38 x1 x2 x3 x4 x5 y0 (f, g) = some (-1) := by
  have R' : RC 27 (f 437) (f, g).1 := R
  unfold jn_X11_quartet_38
  by_cases h0 : y0 = 0
  · rw [if_pos h0]
  · rw [if_neg h0, X7_hasBoth R', cal_some, X7_hasBoth R', cal_some]
    by_cases h1 : (hs (f 437) x1 && hs (f 437) x2) = true
    · rw [if_pos h1, if_neg (show ¬ (1 : Int32) = 0 by decide)]
      by_cases h2 : (hs (f 437) x3 && hs (f 437) x4) = true
      · rw [if_pos h2, if_neg (show ¬ (1 : Int32) = 0 by decide)]
        rcases h with h | h | h | h
        · rw [h1, h2] at h; cases h
        · rw [if_pos h]
        · by_cases h5 : x5 < 0
          · rw [if_pos h5]
          · rw [if_neg h5, if_pos h]
        · exact absurd h h0
      · rw [if_neg h2, if_pos rfl]
    · rw [if_neg h1, if_pos rfl]
theorem qu_none2 (R : RC 27 (f 437) f) {x1 x2 x3 x4 x5 : Int32} (h : (hs (f 437) x1 && hs (f 437) x2 && (hs (f 437) x3 && hs (f 437) x4)) = false ∨ x5 < 0 ∨ (1 : Int32) < x5) : f_X11_quartet x1 x2 x3 x4 x5 (f, g) = some (-1) := by
  have h0 : jn_X11_quartet_37 x1 x2 x3 x4 x5 (f, g) = some (-1) := qu_none R 0 (Or.inr (Or.inr (Or.inr rfl)))
  have h1 : jn_X11_quartet_38 x1 x2 x3 x4 x5 1 (f, g) = some (-1) := qu_none R 1 (h.elim Or.inl (fun z => Or.inr (z.elim Or.inl (fun z => Or.inr (Or.inl z)))))
  unfold f_X11_quartet
  rw [h0, h1]
  (repeat' split) <;> rfl
theorem qu_same (R : RC 27 (f 437) f) {x1 x2 x3 x4 x5 : Int32} (h : x1 = x2 ∨ x1 = x3 ∨ x1 = x4 ∨ x2 = x3 ∨ x2 = x4 ∨ x3 = x4) : f_X11_quartet x1 x2 x3 x4 x5 (f, g) = some (-1) := by
  have h0 : jn_X11_quartet_37 x1 x2 x3 x4 x5 (f, g) = some (-1) := qu_none R 0 (Or.inr (Or.inr (Or.inr rfl)))
  unfold f_X11_quartet
  rw [h0]
  by_cases h1 : x1 = x2
  · rw [if_pos h1]
  · rw [if_neg h1]
    by_cases h2 : x1 = x3
    · rw [if_pos h2]
    · rw [if_neg h2]
      by_cases h3 : x1 = x4
      · rw [if_pos h3]
      · rw [if_neg h3]
        by_cases h4 : x2 = x3
        · rw [if_pos h4]
        · rw [if_neg h4]
          by_cases h5 : x2 = x4
          · rw [if_pos h5]
          · rw [if_neg h5]
            by_cases h6 : x3 = x4
            · rw [if_pos h6]
            · exact absurd h (by simp [h1, h2, h3, h4, h5, h6])
theorem q_quartet (R : RC 27 (f 437) f) (x1 x2 x3 x4 x5 : Int32) : AG (f_X11_quartet x1 x2 x3 x4 x5 (f, g)) (f_X12_quartet x1 x2 x3 x4 x5 (f, g)) := by
  have R' : RC 27 (f 437) (f, g).1 := R
  have one : ¬ (1 : Int32) = 0 := by decide
  by_cases hA : (hs (f 437) x1 && hs (f 437) x2 && (hs (f 437) x3 && hs (f 437) x4)) = true
  · have h1 : hs (f 437) x1 = true := by
      cases h : hs (f 437) x1
      · rw [h] at hA; simp at hA
      · rfl
    have h2 : hs (f 437) x2 = true := by
      cases h : hs (f 437) x2
      · rw [h] at hA; simp at hA
      · rfl
    have h3 : hs (f 437) x3 = true := by
      cases h : hs (f 437) x3
      · rw [h] at hA; simp at hA
      · rfl
    have h4 : hs (f 437) x4 = true := by
      cases h : hs (f 437) x4
      · rw [h] at hA; simp at hA
      · rfl
    obtain ⟨i, hi, rfl, i0⟩ := hs_ex h1
    obtain ⟨j, hj, rfl, j0⟩ := hs_ex h2
    obtain ⟨k, hk, rfl, k0⟩ := hs_ex h3
    obtain ⟨l, hl, rfl, l0⟩ := hs_ex h4
    by_cases h5 : x5 < 0 ∨ (1 : Int32) < x5
    · rw [qu_none2 R (Or.inr h5)]
      unfold f_X12_quartet
      rw [X12_isThere, cal_some, X12_isThere, cal_some, X12_isThere, cal_some, X12_isThere, cal_some, X12_isIn, cal_some]
      simp only [h1, h2, h3, h4, if_true]
      rw [if_neg one, if_neg one, if_neg one, if_neg one, if_pos h5, if_pos rfl]
      exact AG.of rfl rfl
    · obtain ⟨n, b1, b2⟩ := four_bits (f := f) (g := g) hi hj hk hl
      have hM : f_X12_quartet (Int32.ofNat i) (Int32.ofNat j) (Int32.ofNat k) (Int32.ofNat l) x5 (f, g) = (if n < 4 then some (-1) else if zChg f g i k j l < zChg f g i j k l then jn_X12_quartet_120 x5 1 (zChg f g i k j l) (zChg f g i l j k) (f, g) else jn_X12_quartet_120 x5 0 (zChg f g i j k l) (zChg f g i l j k) (f, g)) := by
        unfold f_X12_quartet
        rw [X12_isThere, cal_some, X12_isThere, cal_some, X12_isThere, cal_some, X12_isThere, cal_some, X12_isIn, cal_some]
        simp only [h1, h2, h3, h4, if_true]
        rw [if_neg one, if_neg one, if_neg one, if_neg one, if_neg h5, if_neg one, b1, cal_some, (cm_changes2 R hi hj hk hl i0 j0 k0 l0).2, (cm_changes2 R hi hk hj hl i0 k0 j0 l0).2, (cm_changes2 R hi hl hj hk i0 l0 j0 k0).2]
        rfl
      rw [hM]
      by_cases hf : four i j k l = true
      · have n1 : ¬ Int32.ofNat i = Int32.ofNat j := fun z => by
          have := (on_inj (by omega) (by omega)).mp z
          simp [four, this] at hf
        have n2 : ¬ Int32.ofNat i = Int32.ofNat k := fun z => by
          have := (on_inj (by omega) (by omega)).mp z
          simp [four, this] at hf
        have n3 : ¬ Int32.ofNat i = Int32.ofNat l := fun z => by
          have := (on_inj (by omega) (by omega)).mp z
          simp [four, this] at hf
        have n4 : ¬ Int32.ofNat j = Int32.ofNat k := fun z => by
          have := (on_inj (by omega) (by omega)).mp z
          simp [four, this] at hf
        have n5 : ¬ Int32.ofNat j = Int32.ofNat l := fun z => by
          have := (on_inj (by omega) (by omega)).mp z
          simp [four, this] at hf
        have n6 : ¬ Int32.ofNat k = Int32.ofNat l := fun z => by
          have := (on_inj (by omega) (by omega)).mp z
          simp [four, this] at hf
        have p1 : ¬ x5 < 0 := fun z => h5 (Or.inl z)
        have p2 : ¬ (1 : Int32) < x5 := fun z => h5 (Or.inr z)
        unfold f_X11_quartet
        rw [if_neg n1, if_neg n2, if_neg n3, if_neg n4, if_neg n5, if_neg n6]
        unfold jn_X11_quartet_38
        rw [if_neg one, X7_hasBoth R', cal_some, X7_hasBoth R', cal_some]
        simp only [h1, h2, h3, h4, Bool.and_self, if_true]
        rw [if_neg one, if_neg one, if_neg p1, if_neg p2, (cm_changes2 R hi hj hk hl i0 j0 k0 l0).1, cal_some, (cm_changes2 R hi hk hj hl i0 k0 j0 l0).1, cal_some]
        rw [if_neg (show ¬ n < 4 from fun z => by rw [b2.mp z] at hf; cases hf)]
        unfold jn_X11_quartet_128 jn_X12_quartet_120
        rw [(cm_changes2 R hi hl hj hk i0 l0 j0 k0).1, cal_some]
        repeat' (first | exact AG.of rfl rfl | apply AG.ite)
      · have hf' : four i j k l = false := by simpa using hf
        rw [if_pos (b2.mpr hf')]
        have hsame : Int32.ofNat i = Int32.ofNat j ∨ Int32.ofNat i = Int32.ofNat k ∨ Int32.ofNat i = Int32.ofNat l ∨ Int32.ofNat j = Int32.ofNat k ∨ Int32.ofNat j = Int32.ofNat l ∨ Int32.ofNat k = Int32.ofNat l := by
          unfold four at hf'
          simp only [Bool.not_eq_false', Bool.or_eq_true, decide_eq_true_eq] at hf'
          rcases hf' with ((((h | h) | h) | h) | h) | h
          · exact Or.inl (by rw [h])
          · exact Or.inr (Or.inl (by rw [h]))
          · exact Or.inr (Or.inr (Or.inl (by rw [h])))
          · exact Or.inr (Or.inr (Or.inr (Or.inl (by rw [h]))))
          · exact Or.inr (Or.inr (Or.inr (Or.inr (Or.inl (by rw [h])))))
          · exact Or.inr (Or.inr (Or.inr (Or.inr (Or.inr (by rw [h])))))
        rw [qu_same R hsame]
        exact AG.of rfl rfl
  · rw [qu_none2 R (Or.inl (by simpa using hA))]
    unfold f_X12_quartet
    rw [X12_isThere, cal_some, X12_isThere, cal_some, X12_isThere, cal_some, X12_isThere, cal_some]
    simp only
    by_cases h1 : hs (f 437) x1 = true
    · by_cases h2 : hs (f 437) x2 = true
      · by_cases h3 : hs (f 437) x3 = true
        · by_cases h4 : hs (f 437) x4 = true
          · exact absurd (by rw [h1, h2, h3, h4]; rfl) hA
          · rw [if_pos h1, if_neg one, if_pos h2, if_neg one, if_pos h3, if_neg one, if_neg h4, if_pos rfl]
            exact AG.of rfl rfl
        · rw [if_pos h1, if_neg one, if_pos h2, if_neg one, if_neg h3, if_pos rfl]
          exact AG.of rfl rfl
      · rw [if_pos h1, if_neg one, if_neg h2, if_pos rfl]
        exact AG.of rfl rfl
    · rw [if_neg h1, if_pos rfl]
      exact AG.of rfl rfl
/-- marks of neither -/
def zNe (q : Nat → Int32) (t a c : Nat) : Nat := bc ((mk q t ^^^ mk q a) &&& (mk q t ^^^ mk q c))
theorem zNe_lt {q : Nat → Int32} (W : WM q) {t a c : Nat} (ht : t < 8) (ha : a < 8) (hc : c < 8) : (mk q t ^^^ mk q a) &&& (mk q t ^^^ mk q c) < 64 ∧ zNe q t a c ≤ 6 := by
  have h1 : (mk q t ^^^ mk q a) &&& (mk q t ^^^ mk q c) < 64 := Nat.lt_of_le_of_lt Nat.and_le_left (Nat.xor_lt_two_pow (n := 6) (W t ht).1 (W a ha).1)
  have h : ∀ n : Fin 64, bc n.val ≤ 6 := by decide +kernel
  exact ⟨h1, h ⟨_, h1⟩⟩
theorem X6_ne (R : RC 27 (f 437) f) (W : WQ nr (f 437)) {t a c : Nat} (ht : t < 8) (ha : a < 8) (hc : c < 8) (t0 : 0 < f 437 t) (a0 : 0 < f 437 a) (c0 : 0 < f 437 c) : f_X6_marksInNeither 27 (Int32.ofNat t) (Int32.ofNat a) (Int32.ofNat c) (f, g) = some (Int32.ofNat (zNe (f 437) t a c)) := by
  have R' : RC 27 (f 437) (f, g).1 := R
  have one : ¬ (1 : Int32) = 0 := by decide
  unfold f_X6_marksInNeither
  rw [X7_has R', cal_some, X7_hasBoth R', cal_some, hs_on ht, hs_on ha, hs_on hc, if_pos (show decide (0 < f 437 t) = true by simp [t0]), if_neg one, if_pos (show (decide (0 < f 437 a) && decide (0 < f 437 c)) = true by simp [a0, c0]), if_neg one]
  rw [rdS3 R' ht, rdS3 R' ha, rdS3 R' ht, rdS3 R' hc, (W.wm t ht).2, (W.wm a ha).2, (W.wm c hc).2, xor_on, xor_on, and_on, J6_on (by have := (zNe_lt W.wm ht ha hc).1; omega), cal_some]
  rfl
def zSt (q : Nat → Int32) (t v : Nat) (p : Int32 × Int32) : Int32 × Int32 := if v / 8 < v % 8 ∧ ¬ v / 8 = t ∧ ¬ v % 8 = t ∧ 0 < q (v / 8) ∧ 0 < q (v % 8) ∧ Int32.ofNat (zNe q t (v / 8) (v % 8)) < p.2 then (Int32.ofNat v, Int32.ofNat (zNe q t (v / 8) (v % 8))) else p
theorem fo_add {α : Type} {F : Nat → α → α} : ∀ (m n t : Nat) (a : α), fo F (m + n) t a = fo F n (t + m) (fo F m t a)
  | 0, n, t, a => by rw [Nat.zero_add]; rfl
  | m + 1, n, t, a => by
    rw [show m + 1 + n = (m + n) + 1 by omega, fo, fo, fo_add m n (t + 1), show t + 1 + m = t + (m + 1) by omega]
theorem fo_id {α : Type} {F : Nat → α → α} : ∀ (m t : Nat) (a : α), (∀ k, t ≤ k → k < t + m → ∀ x, F k x = x) → fo F m t a = a
  | 0, _, _, _ => rfl
  | m + 1, t, a, h => by
    rw [fo, h t (Nat.le_refl _) (by omega)]
    exact fo_id m (t + 1) a (fun k h1 h2 => h k (by omega) (by omega))
theorem v_on {a c : Nat} (ha : a < 8) (hc : c < 8) : Int32.ofNat a * 8 + Int32.ofNat c = Int32.ofNat (8 * a + c) := by
  have h : ∀ a c : Fin 8, Int32.ofNat a.val * 8 + Int32.ofNat c.val = Int32.ofNat (8 * a.val + c.val) := by decide +kernel
  exact h ⟨a, ha⟩ ⟨c, hc⟩
theorem dm8 {a c : Nat} (hc : c < 8) : (8 * a + c) / 8 = a ∧ (8 * a + c) % 8 = c := by omega
theorem c_pair1 (R : RC 27 (f 437) f) (W : WQ nr (f 437)) {t a : Nat} (ht : t < 8) (ha : a < 8) (t0 : 0 < f 437 t) {k : Int32 → Int32 → Option Int32} : ∀ m n c (p : Int32 × Int32), c + m = 8 → a < c → lp_X6_nearestPair_21 27 (Int32.ofNat t) (Int32.ofNat a) (f, g) k (n + m + 1) p.1 p.2 (Int32.ofNat c) = k (fo (zSt (f 437) t) m (8 * a + c) p).1 (fo (zSt (f 437) t) m (8 * a + c) p).2 := by
  have R' : RC 27 (f 437) (f, g).1 := R
  have one : ¬ (1 : Int32) = 0 := by decide
  intro m
  induction m with
  | zero =>
    intro n c p hc _
    obtain rfl : c = 8 := by omega
    rw [lp_X6_nearestPair_21, if_neg (by decide)]
    rfl
  | succ m ih =>
    intro n c p hc hac
    have h8 : c < 8 := by omega
    have e : ∀ p : Int32 × Int32, lp_X6_nearestPair_21 27 (Int32.ofNat t) (Int32.ofNat a) (f, g) k (n + (m + 1)) p.1 p.2 (Int32.ofNat (c + 1)) = k (fo (zSt (f 437) t) m (8 * a + c + 1) p).1 (fo (zSt (f 437) t) m (8 * a + c + 1) p).2 := fun p => ih n (c + 1) p (by omega) (by omega)
    have e2 := e (Int32.ofNat (8 * a + c), Int32.ofNat (zNe (f 437) t a c))
    simp only at e2
    have d := dm8 (a := a) h8
    have hz : zSt (f 437) t (8 * a + c) p = if a < c ∧ ¬ a = t ∧ ¬ c = t ∧ 0 < f 437 a ∧ 0 < f 437 c ∧ Int32.ofNat (zNe (f 437) t a c) < p.2 then (Int32.ofNat (8 * a + c), Int32.ofNat (zNe (f 437) t a c)) else p := by
      unfold zSt
      rw [d.1, d.2]
    have c1 : (Int32.ofNat a = Int32.ofNat t) ↔ a = t := on_inj (by omega) (by omega)
    have c2 : (Int32.ofNat c = Int32.ofNat t) ↔ c = t := on_inj (by omega) (by omega)
    rw [lp_X6_nearestPair_21, if_pos (i8_lt c h8), i8_succ c h8, fo, hz, X7_hasBoth R', cal_some, hs_on ha, hs_on h8]
    by_cases g1 : a = t
    · rw [if_pos (c1.mpr g1), if_neg (fun z => z.2.1 g1), e]
    · rw [if_neg (fun z => g1 (c1.mp z))]
      by_cases g2 : c = t
      · rw [if_pos (c2.mpr g2), if_neg (fun z => z.2.2.1 g2), e]
      · rw [if_neg (fun z => g2 (c2.mp z))]
        by_cases g3 : (decide (0 < f 437 a) && decide (0 < f 437 c)) = true
        · have g3' : 0 < f 437 a ∧ 0 < f 437 c := by simpa using g3
          rw [if_pos g3, if_neg one, X6_ne R W ht ha h8 t0 g3'.1 g3'.2, cal_some, v_on ha h8]
          by_cases g4 : Int32.ofNat (zNe (f 437) t a c) < p.2
          · rw [if_pos g4, if_pos ⟨hac, g1, g2, g3'.1, g3'.2, g4⟩, e2]
          · rw [if_neg g4, if_neg (fun z => g4 z.2.2.2.2.2), e]
        · rw [if_neg g3, if_pos rfl, if_neg (fun z => g3 (by simp [z.2.2.2.1, z.2.2.2.2.1])), e]
theorem c_pair1' (R : RC 27 (f 437) f) (W : WQ nr (f 437)) {t a : Nat} (ht : t < 8) (ha : a < 8) (t0 : 0 < f 437 t) {k : Int32 → Int32 → Option Int32} (p : Int32 × Int32) : lp_X6_nearestPair_21 27 (Int32.ofNat t) (Int32.ofNat a) (f, g) k 4000 p.1 p.2 (Int32.ofNat (a + 1)) = k (fo (zSt (f 437) t) 8 (8 * a) p).1 (fo (zSt (f 437) t) 8 (8 * a) p).2 := by
  have h := c_pair1 (g := g) R W ht ha t0 (k := k) (7 - a) (3999 - (7 - a)) (a + 1) p (by omega) (by omega)
  rw [show 3999 - (7 - a) + (7 - a) + 1 = 4000 by omega] at h
  rw [h]
  have h2 : fo (zSt (f 437) t) 8 (8 * a) p = fo (zSt (f 437) t) (7 - a) (8 * a + (a + 1)) p := by
    rw [show (8 : Nat) = (a + 1) + (7 - a) by omega, fo_add, show (a + 1 + (7 - a)) * a = 8 * a by rw [show a + 1 + (7 - a) = 8 by omega]]
    rw [fo_id (a + 1) (8 * a) p (fun k h1 h2 x => by
      unfold zSt
      rw [if_neg (fun z => by have := z.1; omega)])]
  rw [h2]
theorem c_pair (R : RC 27 (f 437) f) (W : WQ nr (f 437)) {t : Nat} (ht : t < 8) (t0 : 0 < f 437 t) : ∀ m n a (p : Int32 × Int32), a + m = 8 → lp_X6_nearestPair_8 27 (Int32.ofNat t) (f, g) (n + m + 1) p.1 p.2 (Int32.ofNat a) = some (fo (zSt (f 437) t) (8 * m) (8 * a) p).1 := by
  intro m
  induction m with
  | zero =>
    intro n a p ha
    obtain rfl : a = 8 := by omega
    rw [lp_X6_nearestPair_8, if_neg (by decide)]
    rfl
  | succ m ih =>
    intro n a p ha
    have h8 : a < 8 := by omega
    have e : ∀ p : Int32 × Int32, lp_X6_nearestPair_8 27 (Int32.ofNat t) (f, g) (n + (m + 1)) p.1 p.2 (Int32.ofNat (a + 1)) = _ := fun p => ih n (a + 1) p (by omega)
    rw [lp_X6_nearestPair_8, if_pos (i8_lt a h8), i8_succ a h8, c_pair1' R W ht h8 t0, e, show 8 * (m + 1) = 8 + 8 * m by omega, fo_add, show 8 * (a + 1) = 8 * a + 8 by omega]
theorem m_pair {t : Nat} {x2 : Int32} (W : WQ nr (f 437)) (ht : t < 8) (t0 : 0 < f 437 t) {k : Int32 → Int32 → Option Int32} : ∀ m n v (p : Int32 × Int32), v + m = 64 → lp_X12_sires_29 (Int32.ofNat t) x2 (f, g) k (n + m + 1) p.1 p.2 (Int32.ofNat v) = k (fo (zSt (f 437) t) m v p).1 (fo (zSt (f 437) t) m v p).2 := by
  have one : ¬ (1 : Int32) = 0 := by decide
  intro m
  induction m with
  | zero =>
    intro n v p hv
    obtain rfl : v = 64 := by omega
    rw [lp_X12_sires_29, if_neg (by decide)]
    rfl
  | succ m ih =>
    intro n v p hv
    have h64 : v < 64 := by omega
    have e : ∀ p : Int32 × Int32, lp_X12_sires_29 (Int32.ofNat t) x2 (f, g) k (n + (m + 1)) p.1 p.2 (Int32.ofNat (v + 1)) = _ := fun p => ih n (v + 1) p (by omega)
    have e2 := e (Int32.ofNat v, Int32.ofNat (zNe (f 437) t (v / 8) (v % 8)))
    simp only at e2
    have ha : v / 8 < 8 := by omega
    have hc : v % 8 < 8 := by omega
    have hvv : 8 * (v / 8) + v % 8 = v := by omega
    have d1 : Int32.ofNat v / 8 = Int32.ofNat (v / 8) := by
      have := cp_div ha hc
      rw [hvv] at this
      exact this
    have d2 : Int32.ofNat v - Int32.ofNat v / 8 * 8 = Int32.ofNat (v % 8) := by
      have := cp_mod ha hc
      rw [hvv] at this
      exact this
    have c1 : (Int32.ofNat (v / 8) = Int32.ofNat t) ↔ v / 8 = t := on_inj (by omega) (by omega)
    have c2 : (Int32.ofNat (v % 8) = Int32.ofNat t) ↔ v % 8 = t := on_inj (by omega) (by omega)
    have c0 : (Int32.ofNat (v / 8) < Int32.ofNat (v % 8)) ↔ v / 8 < v % 8 := on_lt (by omega) (by omega)
    have hl : Int32.ofNat v < 64 := by
      rw [show (64 : Int32) = Int32.ofNat 64 from rfl, on_lt (by omega) (by omega)]
      exact h64
    rw [lp_X12_sires_29, if_pos hl, d2, d1, on_succ, fo, X12_isThere, cal_some, X12_isThere, cal_some, hs_on ha, hs_on hc]
    simp only
    by_cases g0 : v / 8 < v % 8
    · rw [if_pos (c0.mpr g0)]
      by_cases g1 : v / 8 = t
      · rw [if_pos (c1.mpr g1), e]
        have : zSt (f 437) t v p = p := by unfold zSt; rw [if_neg (fun z => z.2.1 g1)]
        rw [this]
      · rw [if_neg (fun z => g1 (c1.mp z))]
        by_cases g2 : v % 8 = t
        · rw [if_pos (c2.mpr g2), e]
          have : zSt (f 437) t v p = p := by unfold zSt; rw [if_neg (fun z => z.2.2.1 g2)]
          rw [this]
        · rw [if_neg (fun z => g2 (c2.mp z))]
          by_cases g3 : 0 < f 437 (v / 8)
          · rw [if_pos (show decide (0 < f 437 (v / 8)) = true by simp [g3]), if_neg one]
            by_cases g5 : 0 < f 437 (v % 8)
            · rw [if_pos (show decide (0 < f 437 (v % 8)) = true by simp [g5]), if_neg one, rdA16 ht, rdA16 ha, rdA16 ht, rdA16 hc]
              simp only
              rw [(W.wm t ht).2, (W.wm _ ha).2, (W.wm _ hc).2, xor_on, xor_on, and_on, X12_bitsOf (by have := (zNe_lt W.wm ht ha hc).1; omega), cal_some]
              by_cases g4 : Int32.ofNat (zNe (f 437) t (v / 8) (v % 8)) < p.2
              · have : zSt (f 437) t v p = (Int32.ofNat v, Int32.ofNat (zNe (f 437) t (v / 8) (v % 8))) := by unfold zSt; rw [if_pos ⟨g0, g1, g2, g3, g5, g4⟩]
                rw [this, ← e2]
                exact if_pos g4
              · have : zSt (f 437) t v p = p := by unfold zSt; rw [if_neg (fun z => g4 z.2.2.2.2.2)]
                rw [this, ← e]
                exact if_neg g4
            · rw [if_neg (show ¬ decide (0 < f 437 (v % 8)) = true by simp [g5]), if_pos rfl, e]
              have : zSt (f 437) t v p = p := by unfold zSt; rw [if_neg (fun z => g5 z.2.2.2.2.1)]
              rw [this]
          · rw [if_neg (show ¬ decide (0 < f 437 (v / 8)) = true by simp [g3]), if_pos rfl, e]
            have : zSt (f 437) t v p = p := by unfold zSt; rw [if_neg (fun z => g3 z.2.2.2.1)]
            rw [this]
    · rw [if_neg (fun z => g0 (c0.mp z)), e]
      have : zSt (f 437) t v p = p := by unfold zSt; rw [if_neg (fun z => g0 z.1)]
      rw [this]
/-- the two beginnings come to the same -/
theorem zSt_rel {q : Nat → Int32} (W : WM q) {t : Nat} (ht : t < 8) : ∀ m v (p p' : Int32 × Int32), v + m = 64 → ((p = ((-1), 7) ∧ p' = ((-1), 1000)) ∨ (p = p' ∧ ∃ a c, a < 8 ∧ c < 8 ∧ 0 < q a ∧ 0 < q c ∧ p = (Int32.ofNat (8 * a + c), Int32.ofNat (zNe q t a c)))) → let r := fo (zSt q t) m v p
 let r' := fo (zSt q t) m v p'
 (r = ((-1), 7) ∧ r' = ((-1), 1000)) ∨ (r = r' ∧ ∃ a c, a < 8 ∧ c < 8 ∧ 0 < q a ∧ 0 < q c ∧ r = (Int32.ofNat (8 * a + c), Int32.ofNat (zNe q t a c))) := by
  intro m
  induction m with
  | zero => intro v p p' hv h; exact h
  | succ m ih =>
    intro v p p' hv h
    refine ih (v + 1) _ _ (by omega) ?_
    have ha : v / 8 < 8 := by omega
    have hc : v % 8 < 8 := by omega
    have hvv : 8 * (v / 8) + v % 8 = v := by omega
    have hb := (zNe_lt W ht ha hc).2
    rcases h with ⟨rfl, rfl⟩ | ⟨rfl, a, c, a8, c8, a0, c0, hp⟩
    · have l1 : Int32.ofNat (zNe q t (v / 8) (v % 8)) < 7 := by
        rw [show (7 : Int32) = Int32.ofNat 7 from rfl, on_lt (by omega) (by omega)]; omega
      have l2 : Int32.ofNat (zNe q t (v / 8) (v % 8)) < 1000 := by
        rw [show (1000 : Int32) = Int32.ofNat 1000 from rfl, on_lt (by omega) (by omega)]; omega
      unfold zSt
      by_cases g0 : v / 8 < v % 8 ∧ ¬ v / 8 = t ∧ ¬ v % 8 = t ∧ 0 < q (v / 8) ∧ 0 < q (v % 8)
      · rw [if_pos ⟨g0.1, g0.2.1, g0.2.2.1, g0.2.2.2.1, g0.2.2.2.2, l1⟩, if_pos ⟨g0.1, g0.2.1, g0.2.2.1, g0.2.2.2.1, g0.2.2.2.2, l2⟩]
        exact Or.inr ⟨rfl, v / 8, v % 8, ha, hc, g0.2.2.2.1, g0.2.2.2.2, by rw [hvv]⟩
      · rw [if_neg (fun z => g0 ⟨z.1, z.2.1, z.2.2.1, z.2.2.2.1, z.2.2.2.2.1⟩), if_neg (fun z => g0 ⟨z.1, z.2.1, z.2.2.1, z.2.2.2.1, z.2.2.2.2.1⟩)]
        exact Or.inl ⟨rfl, rfl⟩
    · refine Or.inr ⟨rfl, ?_⟩
      unfold zSt
      split
      · rename_i g0
        exact ⟨v / 8, v % 8, ha, hc, g0.2.2.2.1, g0.2.2.2.2.1, by rw [hvv]⟩
      · exact ⟨a, c, a8, c8, a0, c0, hp⟩
theorem q_sires (R : RC 27 (f 437) f) (W : WQ nr (f 437)) (x y : Int32) : AG (f_X11_sires x y (f, g)) (f_X12_sires x y (f, g)) := by
  have R' : RC 27 (f 437) (f, g).1 := R
  have one : ¬ (1 : Int32) = 0 := by decide
  unfold f_X11_sires f_X12_sires
  rw [X7_has R', X12_isThere, cal_some, cal_some, X12_isIn, cal_some]
  simp only
  by_cases h1 : hs (f 437) x = true
  · obtain ⟨t, ht, rfl, t0⟩ := hs_ex h1
    rw [if_pos h1, if_neg one, if_neg one]
    by_cases hy : y < 0 ∨ (2 : Int32) < y
    · rw [if_pos hy, if_pos (show (0 : Int32) = 0 from rfl)]
      by_cases h0 : y < 0
      · rw [if_pos h0]
        exact AG.of rfl rfl
      · rw [if_neg h0, if_pos (hy.elim (fun z => absurd z h0) id)]
        exact AG.of rfl rfl
    · have y0 : ¬ y < 0 := fun z => hy (Or.inl z)
      have y2 : ¬ (2 : Int32) < y := fun z => hy (Or.inr z)
      rw [if_neg hy, if_neg one, if_neg y0, if_neg y2]
      have k1 : f_X6_nearestPair 27 (Int32.ofNat t) (f, g) = some (fo (zSt (f 437) t) 64 0 ((-1), 7)).1 := c_pair R W ht t0 8 3991 0 ((-1), 7) rfl
      have k2 := m_pair (g := g) (x2 := y) W ht t0 (k := fun z20 z21 => if z20 < 0 then some (-1) else if y = 0 then some (z20 / 8) else if y = 1 then some (z20 - z20 / 8 * 8) else some z21) 64 3935 0 ((-1), 1000) rfl
      have k2' : lp_X12_sires_29 (Int32.ofNat t) y (f, g) (fun z20 z21 => if z20 < 0 then some (-1) else if y = 0 then some (z20 / 8) else if y = 1 then some (z20 - z20 / 8 * 8) else some z21) 4000 (-1) 1000 0 = _ := k2
      rw [k1, cal_some, k2']
      rcases zSt_rel W.wm ht 64 0 ((-1), 7) ((-1), 1000) rfl (Or.inl ⟨rfl, rfl⟩) with ⟨e1, e2⟩ | ⟨e1, a, c, ha, hc, a0, c0, e2⟩
      · rw [e1, e2]
        exact AG.of rfl rfl
      · rw [← e1, e2]
        simp only
        have g1 := cp_ge ha hc
        rw [if_neg g1.2, if_neg g1.1, cp_mod ha hc, cp_div ha hc, X6_ne R W ht ha hc t0 a0 c0, cal_some]
        by_cases y3 : y = 2
        · rw [if_pos y3, if_neg (by rw [y3]; decide), if_neg (by rw [y3]; decide)]
          exact AG.of rfl rfl
        · rw [if_neg y3]
          by_cases y4 : y = 0
          · rw [if_pos y4, if_pos y4]
            exact AG.of rfl rfl
          · have y5 : y = 1 := by
              rw [Int32.lt_iff_toInt_lt] at y0 y2
              have e0 : (0 : Int32).toInt = 0 := rfl
              have e2' : (2 : Int32).toInt = 2 := rfl
              rw [ti_zero] at y4
              have y3' : ¬ y.toInt = 2 := fun z => y3 (Int32.toInt_inj.mp z)
              apply Int32.toInt_inj.mp
              rw [ti_1]
              omega
            rw [if_neg y4, if_neg y4, if_pos y5]
            exact AG.of rfl rfl
  · rw [if_neg h1, if_pos rfl, if_pos rfl]
    exact AG.of rfl rfl
end QD
