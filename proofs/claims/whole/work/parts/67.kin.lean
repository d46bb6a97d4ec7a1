/-! Parents, forebears, kin -/
theorem zS_empty : zS (fun _ => false) = 0 := by decide +kernel
theorem zS_or2 (a c : Nat → Bool) : zS a ||| zS c = zS (fun k => a k || c k) := by
  rw [zS_on, zS_on, or_on, ← zS_test (Nat.or_lt_two_pow (n := 8) (zN_lt a) (zN_lt c))]
  refine zS_cong (fun k hk => ?_)
  rw [Nat.testBit_or, zN_bit a hk, zN_bit c hk]
theorem zS_and2 (a c : Nat → Bool) : zS a &&& zS c = zS (fun k => a k && c k) := by
  rw [zS_on, zS_on, and_on, ← zS_test (Nat.lt_of_le_of_lt Nat.and_le_left (zN_lt a))]
  refine zS_cong (fun k hk => ?_)
  rw [Nat.testBit_and, zN_bit a hk, zN_bit c hk]
theorem zS_zero (e : Nat → Bool) : zS e = 0 ↔ ∀ k, k < 8 → e k = false := by
  have h := all8 (P := fun e => zS e = 0 ↔ ∀ k : Fin 8, e k.val = false) (fun e e' h hp => by
    rw [zS_cong h, hp]
    exact ⟨fun z k => by rw [h k.val k.isLt]; exact z k, fun z k => by rw [← h k.val k.isLt]; exact z k⟩) (by decide +kernel) e
  rw [h]
  exact ⟨fun z k hk => z ⟨k, hk⟩, fun z k => z k.val k.isLt⟩
theorem zS_one {t : Nat} (ht : t < 8) : (1 : Int32) <<< (Int32.ofNat t &&& 31) = zS (fun k => decide (k = t)) := by
  have h : ∀ t : Fin 8, (1 : Int32) <<< (Int32.ofNat t.val &&& 31) = zS (fun k => decide (k = t.val)) := by decide +kernel
  exact h ⟨t, ht⟩
/-- whose parents -/
def prS (q : Nat → Int32) (e : Nat → Bool) (t : Nat) (a : Nat → Bool) : Nat → Bool := fun k => a k || (e t && (decide (q (40 + t) = Int32.ofNat k) || decide (q (48 + t) = Int32.ofNat k)))
def pr (q : Nat → Int32) (e : Nat → Bool) : Nat → Bool := fo (prS q e) 8 0 (fun _ => false)
theorem fo_prS {q : Nat → Int32} {e : Nat → Bool} {k : Nat} : ∀ m t (a : Nat → Bool), fo (prS q e) m t a k = true ↔ a k = true ∨ ∃ j, t ≤ j ∧ j < t + m ∧ e j = true ∧ (q (40 + j) = Int32.ofNat k ∨ q (48 + j) = Int32.ofNat k) := by
  intro m
  induction m with
  | zero =>
    intro t a
    rw [fo]
    constructor
    · exact Or.inl
    · rintro (h | ⟨j, h1, h2, -⟩)
      · exact h
      · omega
  | succ m ih =>
    intro t a
    rw [fo, ih (t + 1)]
    unfold prS
    simp only [Bool.or_eq_true, Bool.and_eq_true, decide_eq_true_eq]
    constructor
    · rintro ((h | h) | ⟨j, h1, h2, h3⟩)
      · exact Or.inl h
      · exact Or.inr ⟨t, Nat.le_refl _, by omega, h⟩
      · exact Or.inr ⟨j, by omega, by omega, h3⟩
    · rintro (h | ⟨j, h1, h2, h3⟩)
      · exact Or.inl (Or.inl h)
      · by_cases e : j = t
        · subst e; exact Or.inl (Or.inr h3)
        · exact Or.inr ⟨j, by omega, by omega, h3⟩
theorem pr_iff {q : Nat → Int32} {e : Nat → Bool} {k : Nat} : pr q e k = true ↔ ∃ j, j < 8 ∧ e j = true ∧ (q (40 + j) = Int32.ofNat k ∨ q (48 + j) = Int32.ofNat k) := by
  unfold pr
  rw [fo_prS]
  constructor
  · rintro (h | ⟨j, h1, h2, h3⟩)
    · cases h
    · exact ⟨j, by omega, h3⟩
  · rintro ⟨j, h1, h2⟩
    exact Or.inr ⟨j, Nat.zero_le _, by omega, h2⟩
theorem or_par {a : Nat → Bool} {v : Int32} (w : wpar v) : zS a ||| (if v < 0 then 0 else (1 : Int32) <<< (v &&& 31)) = zS (fun k => a k || decide (v = Int32.ofNat k)) := by
  rcases w with rfl | ⟨j, hj, rfl⟩
  · rw [if_pos (by decide), Int32.or_zero]
    refine zS_cong (fun k hk => ?_)
    have := i8_neg k hk
    simp [this]
  · rw [if_neg (i8_ge j (by omega)), zS_one hj, zS_or2]
    refine zS_cong (fun k hk => ?_)
    have := on_inj (a := j) (b := k) (by omega) (by omega)
    simp only [this]
    by_cases h : k = j
    · subst h; simp
    · have : ¬ j = k := fun z => h z.symm
      simp [h, this]
theorem X7_bitOf {v : Int32} (w : wpar v) {h : am_H} : f_X7_bitOf v h = some (if v < 0 then 0 else (1 : Int32) <<< (v &&& 31)) := by
  unfold f_X7_bitOf
  rcases w with rfl | ⟨j, hj, rfl⟩
  · rw [if_pos (by decide), if_pos (by decide)]
  · rw [if_neg (i8_ge j (by omega)), if_pos (i8_lt j hj), if_neg (i8_ge j (by omega))]
section QE
variable {f : Nat → Nat → Int32} {g : (Nat → Nat → Int64) × (Nat → Nat → Option Nat)} {b nr : Nat} {hold : Nat → Int32}
theorem step_par {e a : Nat → Bool} {q : Nat → Int32} {t : Nat} (W : WQ nr q) (ht : t < 8) (he : e t = true) : (zS a ||| (if q (40 + t) < 0 then 0 else (1 : Int32) <<< (q (40 + t) &&& 31))) ||| (if q (48 + t) < 0 then 0 else (1 : Int32) <<< (q (48 + t) &&& 31)) = zS (prS q e t a) := by
  rw [or_par (W t ht).2.2.2.2.1, or_par (W t ht).2.2.2.2.2]
  refine zS_cong (fun k hk => ?_)
  unfold prS
  rw [he, Bool.true_and, Bool.or_assoc]
theorem skip_par {e a : Nat → Bool} {q : Nat → Int32} {t : Nat} (he : e t = false) : prS q e t a = a := by
  funext k
  simp [prS, he]
theorem c_par (R : RC 27 (f 437) f) (W : WQ nr (f 437)) {e : Nat → Bool} : ∀ m n t (a : Nat → Bool), t + m = 8 → lp_X7_parentsOf_4 27 (zS e) (f, g) (n + m + 1) (zS a) (Int32.ofNat t) = some (zS (fo (prS (f 437) e) m t a)) := by
  have R' : RC 27 (f 437) (f, g).1 := R
  intro m
  induction m with
  | zero =>
    intro n t a ht
    obtain rfl : t = 8 := by omega
    rw [lp_X7_parentsOf_4, if_neg (by decide)]
    rfl
  | succ m ih =>
    intro n t a ht
    have h8 : t < 8 := by omega
    have ih' : ∀ a, lp_X7_parentsOf_4 27 (zS e) (f, g) (n + (m + 1)) (zS a) (Int32.ofNat (t + 1)) = _ := fun a => ih n (t + 1) a (by omega)
    rw [lp_X7_parentsOf_4, if_pos (i8_lt t h8), i8_succ t h8, fo]
    by_cases c : e t = true
    · rw [if_neg (fun z => by
        have z2 := tb_0.mp z
        rw [tb_zS e h8, c] at z2
        cases z2), rdS6 R' h8, X7_bitOf (W t h8).2.2.2.2.1, cal_some, rdS7 R' h8, X7_bitOf (W t h8).2.2.2.2.2, cal_some, ← Int32.or_assoc, step_par W h8 c, ih']
    · have c' : e t = false := by simpa using c
      rw [if_pos (tb_0.mpr (by rw [tb_zS e h8]; exact c')), skip_par c', ih']
theorem X7_parentsOf (R : RC 27 (f 437) f) (W : WQ nr (f 437)) (e : Nat → Bool) : f_X7_parentsOf 27 (zS e) (f, g) = some (zS (pr (f 437) e)) := by
  have h := c_par (g := g) R W (e := e) 8 3991 0 (fun _ => false) rfl
  rw [zS_empty] at h
  exact h
theorem m_par (W : WQ nr (f 437)) {e : Nat → Bool} : ∀ m n t (a : Nat → Bool), t + m = 8 → lp_X12_parentsOf_4 (zS e) (f, g) (n + m + 1) (zS a) (Int32.ofNat t) = some (zS (fo (prS (f 437) e) m t a)) := by
  intro m
  induction m with
  | zero =>
    intro n t a ht
    obtain rfl : t = 8 := by omega
    rw [lp_X12_parentsOf_4, if_neg (by decide)]
    rfl
  | succ m ih =>
    intro n t a ht
    have h8 : t < 8 := by omega
    have ih' : ∀ a, lp_X12_parentsOf_4 (zS e) (f, g) (n + (m + 1)) (zS a) (Int32.ofNat (t + 1)) = _ := fun a => ih n (t + 1) a (by omega)
    rw [lp_X12_parentsOf_4, if_pos (i8_lt t h8), X12_bit, cal_some, tb_zS e h8, fo]
    unfold jn_X12_parentsOf_47
    rw [rdA40 h8, rdA40 h8, rdA48 h8, rdA48 h8, i8_succ t h8]
    simp only
    by_cases c : e t = true
    · rw [if_pos c, if_neg (show ¬ (1 : Int32) = 0 by decide), ← ih', ← step_par W h8 c]
      by_cases c1 : f 437 (40 + t) < 0
      · rw [if_pos c1, if_pos c1, Int32.or_zero]
        by_cases c2 : f 437 (48 + t) < 0
        · rw [if_pos c2, if_pos c2, Int32.or_zero]
        · rw [if_neg c2, if_neg c2]
      · rw [if_neg c1, if_neg c1, rdA48 h8, rdA48 h8]
        simp only
        by_cases c2 : f 437 (48 + t) < 0
        · rw [if_pos c2, if_pos c2, Int32.or_zero]
        · rw [if_neg c2, if_neg c2]
    · have c' : e t = false := by simpa using c
      rw [if_neg c, if_pos rfl, skip_par c', ih']
theorem X12_parentsOf (W : WQ nr (f 437)) (e : Nat → Bool) : f_X12_parentsOf (zS e) (f, g) = some (zS (pr (f 437) e)) := by
  have h := m_par (g := g) W (e := e) 8 3991 0 (fun _ => false) rfl
  rw [zS_empty] at h
  exact h
end QE
/-- n steps up; all of one to n steps -/
def pit (q : Nat → Int32) (e : Nat → Bool) : Nat → Nat → Bool
  | 0 => e
  | n + 1 => pr q (pit q e n)
def sx (q : Nat → Int32) (e : Nat → Bool) : Nat → Nat → Bool
  | 0 => fun _ => false
  | n + 1 => fun k => sx q e n k || pit q e (n + 1) k
theorem sx_iff {q : Nat → Int32} {e : Nat → Bool} {k : Nat} : ∀ n, sx q e n k = true ↔ ∃ i, 1 ≤ i ∧ i ≤ n ∧ pit q e i k = true
  | 0 => by
    constructor
    · intro h; cases h
    · rintro ⟨i, h1, h2, -⟩
      omega
  | n + 1 => by
    show (sx q e n k || pit q e (n + 1) k) = true ↔ _
    rw [Bool.or_eq_true, sx_iff n]
    constructor
    · rintro (⟨i, h1, h2, h3⟩ | h)
      · exact ⟨i, h1, by omega, h3⟩
      · exact ⟨n + 1, by omega, by omega, h⟩
    · rintro ⟨i, h1, h2, h3⟩
      by_cases e : i = n + 1
      · subst e; exact Or.inr h3
      · exact Or.inl ⟨i, h1, by omega, h3⟩
theorem pr_mono {q : Nat → Int32} {e e' : Nat → Bool} (h : ∀ k, k < 8 → e k = true → e' k = true) {k : Nat} (hk : pr q e k = true) : pr q e' k = true := by
  rw [pr_iff] at hk ⊢
  obtain ⟨j, h1, h2, h3⟩ := hk
  exact ⟨j, h1, h j h1 h2, h3⟩
theorem bool_ext {a c : Bool} (h : a = true ↔ c = true) : a = c := by
  cases a <;> cases c <;> simp_all
/-- what is reached in one to n + 1 steps -/
theorem sx_step {q : Nat → Int32} {e : Nat → Bool} {n k : Nat} (hn : 1 ≤ n) : (sx q e n k || pr q (sx q e n) k) = sx q e (n + 1) k := by
  apply bool_ext
  rw [Bool.or_eq_true]
  constructor
  · rintro (h | h)
    · rw [sx_iff] at h ⊢
      obtain ⟨i, h1, h2, h3⟩ := h
      exact ⟨i, h1, by omega, h3⟩
    · rw [pr_iff] at h
      obtain ⟨j, h1, h2, h3⟩ := h
      rw [sx_iff] at h2 ⊢
      obtain ⟨i, g1, g2, g3⟩ := h2
      exact ⟨i + 1, by omega, by omega, pr_iff.mpr ⟨j, h1, g3, h3⟩⟩
  · intro h
    rw [sx_iff] at h
    obtain ⟨i, h1, h2, h3⟩ := h
    by_cases ei : i = n + 1
    · subst ei
      right
      refine pr_mono (e := pit q e n) (fun k hk hp => ?_) h3
      rw [sx_iff]
      exact ⟨n, hn, Nat.le_refl _, hp⟩
    · left
      rw [sx_iff]
      exact ⟨i, h1, by omega, h3⟩
theorem zC_sum (e : Nat → Bool) : (zC e : Int) = sum8 (fun k => if e k = true then 1 else 0) := all8 (P := fun e => (zC e : Int) = sum8 (fun k => if e k = true then 1 else 0)) (fun e e' h hp => by
  rw [zC_cong h, hp]
  exact sum8_eq (fun k hk => by rw [h k hk])) (by decide +kernel) e
theorem zC_strict {e e' : Nat → Bool} (h : ∀ k, k < 8 → e k = true → e' k = true) {k : Nat} (hk : k < 8) (h1 : e k = false) (h2 : e' k = true) : zC e + 1 ≤ zC e' := by
  have a := zC_sum e
  have c := zC_sum e'
  have d := sum8_one (g := fun j => if e j = true then (1 : Int) else 0) (g' := fun j => if j = k then 1 else if e j = true then 1 else 0) hk (fun j hj hjk => by simp [hjk])
  have m := sum8_le (g := fun j => if e' j = true then (1 : Int) else 0) (g' := fun j => if j = k then 1 else if e j = true then 1 else 0) (fun j hj => by
    by_cases e1 : j = k
    · subst e1; simp [h2]
    · by_cases e2 : e j = true
      · simp [e1, e2, h j hj e2]
      · rw [if_neg e1, if_neg e2]
        split
        · exact Int.le_of_lt Int.zero_lt_one
        · exact Int.le_refl _)
  simp only [h1, Bool.false_eq_true, if_false, if_true] at d
  omega
theorem zC_le8 (e : Nat → Bool) : zC e ≤ 8 := by rw [← bc_zN]; exact bc_le
/-- eight places are full after eight steps -/
theorem full {S : Nat → Nat → Bool} (hm : ∀ n k, k < 8 → S n k = true → S (n + 1) k = true) (hp : ∀ n, (∀ k, k < 8 → S (n + 1) k = S n k) → ∀ k, k < 8 → S (n + 2) k = S (n + 1) k) : ∀ n, (∀ k, k < 8 → S (n + 1) k = S n k) ∨ zC (S 0) + n + 1 ≤ zC (S (n + 1))
  | 0 => by
    by_cases h : ∀ k, k < 8 → S 1 k = S 0 k
    · exact Or.inl h
    · right
      have : ∃ k, k < 8 ∧ ¬ S 1 k = S 0 k := Classical.byContradiction (fun z => h (fun k hk => Classical.byContradiction (fun w => z ⟨k, hk, w⟩)))
      obtain ⟨k, hk, hne⟩ := this
      have c0 : S 0 k = false := by
        cases h0 : S 0 k
        · rfl
        · exact absurd (by rw [h0]; exact hm 0 k hk h0) hne
      have c1 : S 1 k = true := by
        cases h1 : S 1 k
        · exact absurd (by rw [h1, c0]) hne
        · rfl
      have := zC_strict (e := S 0) (e' := S 1) (hm 0) hk c0 c1
      omega
  | n + 1 => by
    rcases full hm hp n with h | h
    · exact Or.inl (hp n h)
    · by_cases h2 : ∀ k, k < 8 → S (n + 2) k = S (n + 1) k
      · exact Or.inl h2
      · right
        have : ∃ k, k < 8 ∧ ¬ S (n + 2) k = S (n + 1) k := Classical.byContradiction (fun z => h2 (fun k hk => Classical.byContradiction (fun w => z ⟨k, hk, w⟩)))
        obtain ⟨k, hk, hne⟩ := this
        have c0 : S (n + 1) k = false := by
          cases h0 : S (n + 1) k
          · rfl
          · exact absurd (by rw [h0]; exact hm (n + 1) k hk h0) hne
        have c1 : S (n + 2) k = true := by
          cases h1 : S (n + 2) k
          · exact absurd (by rw [h1, c0]) hne
          · rfl
        have := zC_strict (e := S (n + 1)) (e' := S (n + 2)) (hm (n + 1)) hk c0 c1
        show zC (S 0) + (n + 1) + 1 ≤ zC (S (n + 2))
        omega
theorem sx_full {q : Nat → Int32} {e : Nat → Bool} : ∀ k, k < 8 → sx q e 9 k = sx q e 8 k := by
  have hm : ∀ n k, k < 8 → sx q e n k = true → sx q e (n + 1) k = true := fun n k _ h => by
    show (sx q e n k || pit q e (n + 1) k) = true
    rw [h]; rfl
  have hp : ∀ n, (∀ k, k < 8 → sx q e (n + 1) k = sx q e n k) → ∀ k, k < 8 → sx q e (n + 2) k = sx q e (n + 1) k := by
    intro n h k hk
    rw [← sx_step (n := n + 1) (by omega)]
    apply bool_ext
    rw [Bool.or_eq_true]
    constructor
    · rintro (z | z)
      · exact z
      · have z2 : pr q (sx q e n) k = true := pr_mono (fun j hj hz => by rw [← h j hj]; exact hz) z
        rw [pr_iff] at z2
        obtain ⟨j, h1, h2, h3⟩ := z2
        rw [sx_iff] at h2 ⊢
        obtain ⟨i, g1, g2, g3⟩ := h2
        exact ⟨i + 1, by omega, by omega, pr_iff.mpr ⟨j, h1, g3, h3⟩⟩
    · exact Or.inl
  rcases full (S := sx q e) hm hp 8 with h | h
  · exact h
  · have h1 := zC_le8 (sx q e (8 + 1))
    omega
section QF
variable {f : Nat → Nat → Int32} {g : (Nat → Nat → Int64) × (Nat → Nat → Option Nat)} {b nr : Nat} {hold : Nat → Int32}
theorem c_line (R : RC 27 (f 437) f) (W : WQ nr (f 437)) {e : Nat → Bool} : ∀ m n t, t + m = 8 → lp_X6_forebears_9 27 (f, g) (n + m + 1) (zS (pit (f 437) e t)) (zS (sx (f 437) e t)) (Int32.ofNat t) = some (zS (sx (f 437) e 8)) := by
  intro m
  induction m with
  | zero =>
    intro n t ht
    obtain rfl : t = 8 := by omega
    rw [lp_X6_forebears_9, if_neg (by decide)]
  | succ m ih =>
    intro n t ht
    have h8 : t < 8 := by omega
    rw [lp_X6_forebears_9, if_pos (i8_lt t h8), X7_parentsOf R W, cal_some, zS_or2, i8_succ t h8]
    exact ih n (t + 1) (by omega)
theorem m_line (W : WQ nr (f 437)) {e : Nat → Bool} : ∀ m n t, t + m = 8 → lp_X12_line_20 (f, g) (n + m + 1) (zS (sx (f 437) e (t + 1))) (Int32.ofNat t) = some (zS (sx (f 437) e 9)) := by
  intro m
  induction m with
  | zero =>
    intro n t ht
    obtain rfl : t = 8 := by omega
    rw [lp_X12_line_20, if_neg (by decide)]
  | succ m ih =>
    intro n t ht
    have h8 : t < 8 := by omega
    rw [lp_X12_line_20, if_pos (i8_lt t h8), X12_parentsOf W, cal_some, zS_or2, i8_succ t h8]
    rw [show (fun k => sx (f 437) e (t + 1) k || pr (f 437) (sx (f 437) e (t + 1)) k) = sx (f 437) e (t + 1 + 1) from funext (fun k => sx_step (by omega))]
    exact ih n (t + 1) (by omega)
theorem q_line (R : RC 27 (f 437) f) (W : WQ nr (f 437)) (x : Int32) : AG (f_X11_line x (f, g)) (f_X12_line x (f, g)) := by
  have R' : RC 27 (f 437) (f, g).1 := R
  have one : ¬ (1 : Int32) = 0 := by decide
  unfold f_X11_line f_X12_line f_X6_forebears
  rw [X7_has R', X12_isThere, cal_some, cal_some]
  simp only
  by_cases h1 : hs (f 437) x = true
  · obtain ⟨t, ht, rfl, t0⟩ := hs_ex h1
    rw [if_pos h1, if_neg one, if_neg one, zS_one ht, X12_parentsOf W, cal_some]
    have k1 := c_line (g := g) R W (e := fun k => decide (k = t)) 8 3991 0 rfl
    have k1' : lp_X6_forebears_9 27 (f, g) 4000 (zS (fun k => decide (k = t))) 0 0 = some (zS (sx (f 437) (fun k => decide (k = t)) 8)) := by
      rw [show sx (f 437) (fun k => decide (k = t)) 0 = (fun _ => false) from rfl, zS_empty] at k1
      exact k1
    have k2 := m_line (g := g) W (e := fun k => decide (k = t)) 8 3991 0 rfl
    have e2 : sx (f 437) (fun k => decide (k = t)) (0 + 1) = pr (f 437) (fun k => decide (k = t)) := by
      funext k
      show (false || pr (f 437) (fun k => decide (k = t)) k) = _
      rw [Bool.false_or]
    rw [e2] at k2
    have k2' : lp_X12_line_20 (f, g) 4000 (zS (pr (f 437) (fun k => decide (k = t)))) 0 = some (zS (sx (f 437) (fun k => decide (k = t)) 9)) := k2
    rw [k1', cal_some, k2', zS_cong sx_full]
    exact AG.of rfl rfl
  · rw [if_neg h1, if_pos rfl, if_pos rfl]
    exact AG.of rfl rfl
end QF
