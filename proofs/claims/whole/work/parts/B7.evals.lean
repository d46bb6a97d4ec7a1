/-! the steps of a formula, done by both -/
theorem join_c {k : Nat} (hk : isB k = true) (x y : Int32) {h : am_H} : f_X2_join (Int32.ofNat k) x y h = some (jn2 k x y) := by
  unfold isB at hk
  simp only [Bool.or_eq_true, beq_iff_eq] at hk
  rcases hk with ((((((((rfl | rfl) | rfl) | rfl) | rfl) | rfl) | rfl) | rfl) | rfl) | rfl
  · unfold f_X2_join jn2
    rw [if_pos (show Int32.ofNat 11 = 11 from rfl)]
    rw [if_pos (show (11 : Nat) = 11 from rfl)]
    by_cases hx : x = 0 <;> by_cases hy : y = 0 <;> simp [hx, hy]
  · unfold f_X2_join jn2
    rw [if_neg (show ¬ Int32.ofNat 12 = 11 by decide), if_pos (show Int32.ofNat 12 = 12 from rfl)]
    rw [if_neg (show ¬ (12 : Nat) = 11 by decide), if_pos (show (12 : Nat) = 12 from rfl)]
    by_cases hx : x = 0 <;> by_cases hy : y = 0 <;> simp [hx, hy]
  · unfold f_X2_join jn2
    rw [if_neg (show ¬ Int32.ofNat 21 = 11 by decide), if_neg (show ¬ Int32.ofNat 21 = 12 by decide), if_pos (show Int32.ofNat 21 = 21 from rfl)]
    rw [if_neg (show ¬ (21 : Nat) = 11 by decide), if_neg (show ¬ (21 : Nat) = 12 by decide), if_pos (show (21 : Nat) = 21 from rfl)]
    by_cases hx : x < y <;> simp [hx]
  · unfold f_X2_join jn2
    rw [if_neg (show ¬ Int32.ofNat 22 = 11 by decide), if_neg (show ¬ Int32.ofNat 22 = 12 by decide), if_neg (show ¬ Int32.ofNat 22 = 21 by decide), if_pos (show Int32.ofNat 22 = 22 from rfl)]
    rw [if_neg (show ¬ (22 : Nat) = 11 by decide), if_neg (show ¬ (22 : Nat) = 12 by decide), if_neg (show ¬ (22 : Nat) = 21 by decide), if_pos (show (22 : Nat) = 22 from rfl)]
    by_cases hx : y < x <;> simp [hx]
  · unfold f_X2_join jn2
    rw [if_neg (show ¬ Int32.ofNat 23 = 11 by decide), if_neg (show ¬ Int32.ofNat 23 = 12 by decide), if_neg (show ¬ Int32.ofNat 23 = 21 by decide), if_neg (show ¬ Int32.ofNat 23 = 22 by decide), if_pos (show Int32.ofNat 23 = 23 from rfl)]
    rw [if_neg (show ¬ (23 : Nat) = 11 by decide), if_neg (show ¬ (23 : Nat) = 12 by decide), if_neg (show ¬ (23 : Nat) = 21 by decide), if_neg (show ¬ (23 : Nat) = 22 by decide), if_pos (show (23 : Nat) = 23 from rfl)]
    by_cases hx : x = y <;> simp [hx]
  · unfold f_X2_join jn2
    rw [if_neg (show ¬ Int32.ofNat 24 = 11 by decide), if_neg (show ¬ Int32.ofNat 24 = 12 by decide), if_neg (show ¬ Int32.ofNat 24 = 21 by decide), if_neg (show ¬ Int32.ofNat 24 = 22 by decide), if_neg (show ¬ Int32.ofNat 24 = 23 by decide), if_pos (show Int32.ofNat 24 = 24 from rfl)]
    rw [if_neg (show ¬ (24 : Nat) = 11 by decide), if_neg (show ¬ (24 : Nat) = 12 by decide), if_neg (show ¬ (24 : Nat) = 21 by decide), if_neg (show ¬ (24 : Nat) = 22 by decide), if_neg (show ¬ (24 : Nat) = 23 by decide), if_pos (show (24 : Nat) = 24 from rfl)]
  · unfold f_X2_join jn2
    rw [if_neg (show ¬ Int32.ofNat 25 = 11 by decide), if_neg (show ¬ Int32.ofNat 25 = 12 by decide), if_neg (show ¬ Int32.ofNat 25 = 21 by decide), if_neg (show ¬ Int32.ofNat 25 = 22 by decide), if_neg (show ¬ Int32.ofNat 25 = 23 by decide), if_neg (show ¬ Int32.ofNat 25 = 24 by decide), if_pos (show Int32.ofNat 25 = 25 from rfl)]
    rw [if_neg (show ¬ (25 : Nat) = 11 by decide), if_neg (show ¬ (25 : Nat) = 12 by decide), if_neg (show ¬ (25 : Nat) = 21 by decide), if_neg (show ¬ (25 : Nat) = 22 by decide), if_neg (show ¬ (25 : Nat) = 23 by decide), if_neg (show ¬ (25 : Nat) = 24 by decide), if_pos (show (25 : Nat) = 25 from rfl)]
  · unfold f_X2_join jn2
    rw [if_neg (show ¬ Int32.ofNat 26 = 11 by decide), if_neg (show ¬ Int32.ofNat 26 = 12 by decide), if_neg (show ¬ Int32.ofNat 26 = 21 by decide), if_neg (show ¬ Int32.ofNat 26 = 22 by decide), if_neg (show ¬ Int32.ofNat 26 = 23 by decide), if_neg (show ¬ Int32.ofNat 26 = 24 by decide), if_neg (show ¬ Int32.ofNat 26 = 25 by decide), if_pos (show Int32.ofNat 26 = 26 from rfl)]
    rw [if_neg (show ¬ (26 : Nat) = 11 by decide), if_neg (show ¬ (26 : Nat) = 12 by decide), if_neg (show ¬ (26 : Nat) = 21 by decide), if_neg (show ¬ (26 : Nat) = 22 by decide), if_neg (show ¬ (26 : Nat) = 23 by decide), if_neg (show ¬ (26 : Nat) = 24 by decide), if_neg (show ¬ (26 : Nat) = 25 by decide), if_pos (show (26 : Nat) = 26 from rfl)]
  · unfold f_X2_join jn2
    rw [if_neg (show ¬ Int32.ofNat 27 = 11 by decide), if_neg (show ¬ Int32.ofNat 27 = 12 by decide), if_neg (show ¬ Int32.ofNat 27 = 21 by decide), if_neg (show ¬ Int32.ofNat 27 = 22 by decide), if_neg (show ¬ Int32.ofNat 27 = 23 by decide), if_neg (show ¬ Int32.ofNat 27 = 24 by decide), if_neg (show ¬ Int32.ofNat 27 = 25 by decide), if_neg (show ¬ Int32.ofNat 27 = 26 by decide), if_pos (show Int32.ofNat 27 = 27 from rfl)]
    rw [if_neg (show ¬ (27 : Nat) = 11 by decide), if_neg (show ¬ (27 : Nat) = 12 by decide), if_neg (show ¬ (27 : Nat) = 21 by decide), if_neg (show ¬ (27 : Nat) = 22 by decide), if_neg (show ¬ (27 : Nat) = 23 by decide), if_neg (show ¬ (27 : Nat) = 24 by decide), if_neg (show ¬ (27 : Nat) = 25 by decide), if_neg (show ¬ (27 : Nat) = 26 by decide), if_pos (show (27 : Nat) = 27 from rfl)]
    by_cases hy : y = 0 <;> simp [hy, dvI]
  · unfold f_X2_join jn2
    rw [if_neg (show ¬ Int32.ofNat 28 = 11 by decide), if_neg (show ¬ Int32.ofNat 28 = 12 by decide), if_neg (show ¬ Int32.ofNat 28 = 21 by decide), if_neg (show ¬ Int32.ofNat 28 = 22 by decide), if_neg (show ¬ Int32.ofNat 28 = 23 by decide), if_neg (show ¬ Int32.ofNat 28 = 24 by decide), if_neg (show ¬ Int32.ofNat 28 = 25 by decide), if_neg (show ¬ Int32.ofNat 28 = 26 by decide), if_neg (show ¬ Int32.ofNat 28 = 27 by decide), if_pos (show Int32.ofNat 28 = 28 from rfl)]
    rw [if_neg (show ¬ (28 : Nat) = 11 by decide), if_neg (show ¬ (28 : Nat) = 12 by decide), if_neg (show ¬ (28 : Nat) = 21 by decide), if_neg (show ¬ (28 : Nat) = 22 by decide), if_neg (show ¬ (28 : Nat) = 23 by decide), if_neg (show ¬ (28 : Nat) = 24 by decide), if_neg (show ¬ (28 : Nat) = 25 by decide), if_neg (show ¬ (28 : Nat) = 26 by decide), if_neg (show ¬ (28 : Nat) = 27 by decide)]
    by_cases hy : y = 0 <;> simp [hy, dvI]
theorem two_m {k : Nat} (hk : isB k = true) (x y : Int32) {h : am_H} : f_X12_two (Int32.ofNat (mch k)) x y h = some (jn2 k x y) := by
  unfold isB at hk
  simp only [Bool.or_eq_true, beq_iff_eq] at hk
  rcases hk with ((((((((rfl | rfl) | rfl) | rfl) | rfl) | rfl) | rfl) | rfl) | rfl) | rfl
  · rw [show Int32.ofNat (mch 11) = 124 from rfl]
    unfold f_X12_two jn2 jn_X12_two_203
    rw [if_neg (show ¬ (124 : Int32) = 37 by decide), if_neg (show ¬ (124 : Int32) = 38 by decide), if_neg (show ¬ (124 : Int32) = 42 by decide), if_neg (show ¬ (124 : Int32) = 43 by decide), if_neg (show ¬ (124 : Int32) = 45 by decide), if_neg (show ¬ (124 : Int32) = 47 by decide), if_neg (show ¬ (124 : Int32) = 60 by decide), if_neg (show ¬ (124 : Int32) = 61 by decide), if_neg (show ¬ (124 : Int32) = 62 by decide)]
    rw [if_pos (show (11 : Nat) = 11 from rfl)]
    by_cases hx : x = 0 <;> by_cases hy : y = 0 <;> simp [hx, hy]
  · rw [show Int32.ofNat (mch 12) = 38 from rfl]
    unfold f_X12_two jn2
    rw [if_neg (show ¬ (38 : Int32) = 37 by decide), if_pos (show (38 : Int32) = 38 from rfl)]
    rw [if_neg (show ¬ (12 : Nat) = 11 by decide), if_pos (show (12 : Nat) = 12 from rfl)]
    by_cases hx : x = 0 <;> by_cases hy : y = 0 <;> simp [hx, hy]
  · rw [show Int32.ofNat (mch 21) = 60 from rfl]
    unfold f_X12_two jn2
    rw [if_neg (show ¬ (60 : Int32) = 37 by decide), if_neg (show ¬ (60 : Int32) = 38 by decide), if_neg (show ¬ (60 : Int32) = 42 by decide), if_neg (show ¬ (60 : Int32) = 43 by decide), if_neg (show ¬ (60 : Int32) = 45 by decide), if_neg (show ¬ (60 : Int32) = 47 by decide), if_pos (show (60 : Int32) = 60 from rfl)]
    rw [if_neg (show ¬ (21 : Nat) = 11 by decide), if_neg (show ¬ (21 : Nat) = 12 by decide), if_pos (show (21 : Nat) = 21 from rfl)]
    by_cases hx : x < y <;> simp [hx]
  · rw [show Int32.ofNat (mch 22) = 62 from rfl]
    unfold f_X12_two jn2
    rw [if_neg (show ¬ (62 : Int32) = 37 by decide), if_neg (show ¬ (62 : Int32) = 38 by decide), if_neg (show ¬ (62 : Int32) = 42 by decide), if_neg (show ¬ (62 : Int32) = 43 by decide), if_neg (show ¬ (62 : Int32) = 45 by decide), if_neg (show ¬ (62 : Int32) = 47 by decide), if_neg (show ¬ (62 : Int32) = 60 by decide), if_neg (show ¬ (62 : Int32) = 61 by decide), if_pos (show (62 : Int32) = 62 from rfl)]
    rw [if_neg (show ¬ (22 : Nat) = 11 by decide), if_neg (show ¬ (22 : Nat) = 12 by decide), if_neg (show ¬ (22 : Nat) = 21 by decide), if_pos (show (22 : Nat) = 22 from rfl)]
    by_cases hx : y < x <;> simp [hx]
  · rw [show Int32.ofNat (mch 23) = 61 from rfl]
    unfold f_X12_two jn2
    rw [if_neg (show ¬ (61 : Int32) = 37 by decide), if_neg (show ¬ (61 : Int32) = 38 by decide), if_neg (show ¬ (61 : Int32) = 42 by decide), if_neg (show ¬ (61 : Int32) = 43 by decide), if_neg (show ¬ (61 : Int32) = 45 by decide), if_neg (show ¬ (61 : Int32) = 47 by decide), if_neg (show ¬ (61 : Int32) = 60 by decide), if_pos (show (61 : Int32) = 61 from rfl)]
    rw [if_neg (show ¬ (23 : Nat) = 11 by decide), if_neg (show ¬ (23 : Nat) = 12 by decide), if_neg (show ¬ (23 : Nat) = 21 by decide), if_neg (show ¬ (23 : Nat) = 22 by decide), if_pos (show (23 : Nat) = 23 from rfl)]
    by_cases hx : x = y <;> simp [hx]
  · rw [show Int32.ofNat (mch 24) = 43 from rfl]
    unfold f_X12_two jn2
    rw [if_neg (show ¬ (43 : Int32) = 37 by decide), if_neg (show ¬ (43 : Int32) = 38 by decide), if_neg (show ¬ (43 : Int32) = 42 by decide), if_pos (show (43 : Int32) = 43 from rfl)]
    rw [if_neg (show ¬ (24 : Nat) = 11 by decide), if_neg (show ¬ (24 : Nat) = 12 by decide), if_neg (show ¬ (24 : Nat) = 21 by decide), if_neg (show ¬ (24 : Nat) = 22 by decide), if_neg (show ¬ (24 : Nat) = 23 by decide), if_pos (show (24 : Nat) = 24 from rfl)]
  · rw [show Int32.ofNat (mch 25) = 45 from rfl]
    unfold f_X12_two jn2
    rw [if_neg (show ¬ (45 : Int32) = 37 by decide), if_neg (show ¬ (45 : Int32) = 38 by decide), if_neg (show ¬ (45 : Int32) = 42 by decide), if_neg (show ¬ (45 : Int32) = 43 by decide), if_pos (show (45 : Int32) = 45 from rfl)]
    rw [if_neg (show ¬ (25 : Nat) = 11 by decide), if_neg (show ¬ (25 : Nat) = 12 by decide), if_neg (show ¬ (25 : Nat) = 21 by decide), if_neg (show ¬ (25 : Nat) = 22 by decide), if_neg (show ¬ (25 : Nat) = 23 by decide), if_neg (show ¬ (25 : Nat) = 24 by decide), if_pos (show (25 : Nat) = 25 from rfl)]
  · rw [show Int32.ofNat (mch 26) = 42 from rfl]
    unfold f_X12_two jn2
    rw [if_neg (show ¬ (42 : Int32) = 37 by decide), if_neg (show ¬ (42 : Int32) = 38 by decide), if_pos (show (42 : Int32) = 42 from rfl)]
    rw [if_neg (show ¬ (26 : Nat) = 11 by decide), if_neg (show ¬ (26 : Nat) = 12 by decide), if_neg (show ¬ (26 : Nat) = 21 by decide), if_neg (show ¬ (26 : Nat) = 22 by decide), if_neg (show ¬ (26 : Nat) = 23 by decide), if_neg (show ¬ (26 : Nat) = 24 by decide), if_neg (show ¬ (26 : Nat) = 25 by decide), if_pos (show (26 : Nat) = 26 from rfl)]
  · rw [show Int32.ofNat (mch 27) = 47 from rfl]
    unfold f_X12_two jn2
    rw [if_neg (show ¬ (47 : Int32) = 37 by decide), if_neg (show ¬ (47 : Int32) = 38 by decide), if_neg (show ¬ (47 : Int32) = 42 by decide), if_neg (show ¬ (47 : Int32) = 43 by decide), if_neg (show ¬ (47 : Int32) = 45 by decide), if_pos (show (47 : Int32) = 47 from rfl)]
    rw [if_neg (show ¬ (27 : Nat) = 11 by decide), if_neg (show ¬ (27 : Nat) = 12 by decide), if_neg (show ¬ (27 : Nat) = 21 by decide), if_neg (show ¬ (27 : Nat) = 22 by decide), if_neg (show ¬ (27 : Nat) = 23 by decide), if_neg (show ¬ (27 : Nat) = 24 by decide), if_neg (show ¬ (27 : Nat) = 25 by decide), if_neg (show ¬ (27 : Nat) = 26 by decide), if_pos (show (27 : Nat) = 27 from rfl)]
    by_cases hy : y = 0 <;> simp [hy, dvI]
  · rw [show Int32.ofNat (mch 28) = 37 from rfl]
    unfold f_X12_two jn2
    rw [if_pos (show (37 : Int32) = 37 from rfl)]
    rw [if_neg (show ¬ (28 : Nat) = 11 by decide), if_neg (show ¬ (28 : Nat) = 12 by decide), if_neg (show ¬ (28 : Nat) = 21 by decide), if_neg (show ¬ (28 : Nat) = 22 by decide), if_neg (show ¬ (28 : Nat) = 23 by decide), if_neg (show ¬ (28 : Nat) = 24 by decide), if_neg (show ¬ (28 : Nat) = 25 by decide), if_neg (show ¬ (28 : Nat) = 26 by decide), if_neg (show ¬ (28 : Nat) = 27 by decide)]
    by_cases hy : y = 0 <;> simp [hy, dvI]
/-- the steps where they lie -/
def RD (p q : Nat → Int32) (F : Nat → Int32) : Nat → List (Nat × Nat) → Prop
  | _, [] => True
  | i, (k, n) :: R => p i = F k ∧ (k = 29 → q i = Int32.ofNat n) ∧ RD p q F (i + 1) R
def CLg (p q : Nat → Int32) (F : Nat → Int32) (b : Nat) : List (Nat × Nat) → Prop
  | [] => True
  | (k, n) :: C => p (b + C.length) = F k ∧ (k = 29 → q (b + C.length) = Int32.ofNat n) ∧ CLg p q F b C
theorem RD_of {p q F : Nat → Int32} {b : Nat} : ∀ (C R : List (Nat × Nat)), CLg p q F b C → RD p q F (b + C.length) R → RD p q F b (C.reverse ++ R)
  | [], R, _, h => h
  | (k, n) :: C, R, c, h => by
    rw [List.reverse_cons, List.append_assoc]
    exact RD_of C ((k, n) :: R) c.2.2 ⟨c.1, c.2.1, h⟩
theorem CLg_m {f : Nat → Nat → Int32} {b : Nat} : ∀ {C : List (Nat × Nat)}, CLm f b C → CLg (f 432) (f 433) (fun k => Int32.ofNat (mch k)) b C
  | [], _ => trivial
  | (_, _) :: _, h => ⟨h.1, h.2.1, CLg_m h.2.2⟩
theorem CLg_c {f : Nat → Nat → Int32} : ∀ {C : List (Nat × Nat)}, CLc f C → CLg (f 24) (f 25) (fun k => Int32.ofNat k) 0 C
  | [], _ => trivial
  | (_, _) :: C, h => ⟨by rw [Nat.zero_add]; exact h.1, by rw [Nat.zero_add]; exact h.2.1, CLg_c h.2.2⟩
theorem CLg_cong {p q p' q' F : Nat → Int32} {b : Nat} : ∀ {C : List (Nat × Nat)}, (∀ i, i < C.length → p' (b + i) = p (b + i)) → (∀ i, i < C.length → q' (b + i) = q (b + i)) → CLg p q F b C → CLg p' q' F b C
  | [], _, _, _ => trivial
  | (_, _) :: C, h1, h2, h => ⟨by rw [h1 C.length (by simp)]; exact h.1, by rw [h2 C.length (by simp)]; exact h.2.1, CLg_cong (fun i hi => h1 i (by simp; omega)) (fun i hi => h2 i (by simp; omega)) h.2.2⟩
theorem pl_cases {k : Nat} (h : isPl k = true) : k = 29 ∨ k = 3 ∨ k = 14 ∨ k = 15 ∨ k = 16 ∨ k = 17 := by
  unfold isPl at h
  simp only [Bool.or_eq_true, beq_iff_eq] at h
  omega
theorem isB_le {k : Nat} (h : isB k = true) : k ≤ 28 ∧ k ≠ 3 ∧ k ≠ 14 ∧ k ≠ 15 ∧ k ≠ 16 ∧ k ≠ 17 ∧ k ≠ 29 ∧ k ≠ 13 := by
  unfold isB at h
  simp only [Bool.or_eq_true, beq_iff_eq] at h
  omega
theorem on_m1 {l : Nat} (h : 0 < l) : Int32.ofNat l + (-1) = Int32.ofNat (l - 1) := by
  rw [show l = l - 1 + 1 by omega, ← on_succ, Int32.add_assoc, show (1 : Int32) + (-1) = 0 from by decide, Int32.add_zero, show l - 1 + 1 - 1 = l - 1 by omega]
section EVA
variable {f : Nat → Nat → Int32} {g : (Nat → Nat → Int64) × (Nat → Nat → Option Nat)}
theorem push_c {l : Nat} (hl : l < 300) (x : Int32) : f_X2_push_10 (Int32.ofNat l) x (f, g) = some (Int32.ofNat (l + 1), (am_u2 f 13 l x, g)) := by
  unfold f_X2_push_10
  rw [if_neg (nneg (by omega)), if_pos (show Int32.ofNat l < 300 by rw [show (300 : Int32) = Int32.ofNat 300 from rfl, on_lt (by omega) (by omega)]; exact hl), wrIp hl (by decide), on_succ]
theorem work_not {l : Nat} (hl : l < 290) : f_X2_work_10 (Int32.ofNat (l + 1)) 13 (f, g) = some (Int32.ofNat (l + 1), (am_u2 f 13 l (if f 13 l = 0 then 1 else 0), g)) := by
  have h1 : ¬ Int32.ofNat (l + 1) < 1 := by rw [show (1 : Int32) = Int32.ofNat 1 from rfl, on_lt (by omega) (by omega)]; omega
  have h3 : ¬ (300 : Int32) < Int32.ofNat (l + 1) := by rw [show (300 : Int32) = Int32.ofNat 300 from rfl, on_lt (by omega) (by omega)]; omega
  have e : Int32.ofNat (l + 1) - 1 = Int32.ofNat l := by rw [on_pred (by omega), Nat.add_sub_cancel]
  unfold f_X2_work_10
  rw [if_neg h1, if_neg h3, if_pos rfl, e, rdIv (by omega) (by decide) rfl]
  by_cases c : f 13 l = 0
  · rw [if_pos c, if_pos c, wrIp (by omega) (by decide)]
  · rw [if_neg c, if_neg c, wrIp (by omega) (by decide)]
theorem work_two {l k : Nat} (hl : l < 290) (hk : isB k = true) : f_X2_work_10 (Int32.ofNat (l + 2)) (Int32.ofNat k) (f, g) = some (Int32.ofNat (l + 1), (am_u2 f 13 l (jn2 k (f 13 l) (f 13 (l + 1))), g)) := by
  have hb := isB_le hk
  have h1 : ¬ Int32.ofNat (l + 2) < 1 := by rw [show (1 : Int32) = Int32.ofNat 1 from rfl, on_lt (by omega) (by omega)]; omega
  have h2 : ¬ Int32.ofNat (l + 2) < 2 := by rw [show (2 : Int32) = Int32.ofNat 2 from rfl, on_lt (by omega) (by omega)]; omega
  have h3 : ¬ (300 : Int32) < Int32.ofNat (l + 2) := by rw [show (300 : Int32) = Int32.ofNat 300 from rfl, on_lt (by omega) (by omega)]; omega
  have e1 : Int32.ofNat (l + 2) - 1 = Int32.ofNat (l + 1) := by rw [on_pred (by omega)]; rfl
  have e2 : Int32.ofNat (l + 2) - 2 = Int32.ofNat l := by rw [show (2 : Int32) = Int32.ofNat 2 from rfl, on_subN (by omega) (by omega), Nat.add_sub_cancel]
  have n13 : ¬ Int32.ofNat k = 13 := by rw [show (13 : Int32) = Int32.ofNat 13 from rfl, on_inj (by omega) (by omega)]; omega
  unfold f_X2_work_10
  rw [if_neg h1, if_neg h3, if_neg n13, if_neg h2, e2, e1, rdIv (by omega) (by decide) rfl, rdIv (by omega) (by decide) rfl, join_c hk, cal_some, wrIp (by omega) (by decide)]
/-- the class -/
theorem c_eval {v : EN} {len : Nat} (hlen : len < 300) (h3 : f 10 3 = Int32.ofNat len) {K : Int32 → am_H → Option (Int32 × am_H)} : ∀ (R : List (Nat × Nat)) (n i : Nat) (s : List Int32) (w : Nat → Int32), i + R.length = len → RD (f 11) (f 12) (fun k => Int32.ofNat k) i R → okF s.length R 1 → s.length ≤ 30 → SKw w s → ∃ w', lp_X2_value_10_6 v.1 v.2.1 v.2.2.1 v.2.2.2.1 v.2.2.2.2 K (n + R.length + 1) (Int32.ofNat s.length) (Int32.ofNat i) (up f 13 w, g) = K (Int32.ofNat (evF v R s).length) (up f 13 w', g) ∧ SKw w' (evF v R s) := by
  have u3 : ∀ w : Nat → Int32, up f 13 w 10 3 = Int32.ofNat len := fun w => by rw [up_ne (by decide)]; exact h3
  intro R
  induction R with
  | nil =>
    intro n i s w hi hr ho hs hk
    have hi' : i = len := hi
    rw [show n + ([] : List (Nat × Nat)).length + 1 = n + 1 from rfl, lp_X2_value_10_6, bndv (u3 w), if_neg (by rw [on_lt (by omega) (by omega)]; omega)]
    exact ⟨w, rfl, hk⟩
  | cons kn R ih =>
    obtain ⟨k, m⟩ := kn
    intro n i s w hi hr ho hs hk
    rw [List.length_cons] at hi
    obtain ⟨r1, r2, r3⟩ := hr
    have l3 : Int32.ofNat i < 300 := by rw [show (300 : Int32) = Int32.ofNat 300 from rfl, on_lt (by omega) (by omega)]; omega
    rw [show n + ((k, m) :: R).length + 1 = (n + R.length + 1) + 1 by rw [List.length_cons]; omega, lp_X2_value_10_6, bndv (u3 w), if_pos (by rw [on_lt (by omega) (by omega)]; omega), if_pos l3, rdIv (v := Int32.ofNat k) (by omega) (by decide) (by rw [up_ne (by decide)]; exact r1), evF]
    rw [okF] at ho
    rcases ho with ⟨hp, hd, ho⟩ | ⟨rfl, hd, ho⟩ | ⟨hb, hd, ho⟩
    · have hst : stp v k m s = lfv v k m :: s := by unfold stp; rw [if_pos hp]
      have go := ih n (i + 1) (lfv v k m :: s) (st w s.length (lfv v k m)) (by omega) r3 ho hd (SKw_push hk)
      rw [hst]
      have push : ∀ x, f_X2_push_10 (Int32.ofNat s.length) x (up f 13 w, g) = some (Int32.ofNat (s.length + 1), (up f 13 (st w s.length x), g)) := fun x => by rw [push_c (by omega), upw]
      rcases pl_cases hp with rfl | rfl | rfl | rfl | rfl | rfl
      · rw [if_neg (show ¬ Int32.ofNat 29 = 3 by decide), if_neg (show ¬ Int32.ofNat 29 = 14 by decide), if_neg (show ¬ Int32.ofNat 29 = 15 by decide), if_neg (show ¬ Int32.ofNat 29 = 16 by decide), if_neg (show ¬ Int32.ofNat 29 = 17 by decide), if_pos (show Int32.ofNat 29 = 29 from rfl), rdIv (v := Int32.ofNat m) (by omega) (by decide) (by rw [up_ne (by decide)]; exact r2 rfl), push, cal2_some, on_succ]
        exact go
      · rw [if_pos (show Int32.ofNat 3 = 3 from rfl), push, cal2_some, on_succ]
        exact go
      · rw [if_neg (show ¬ Int32.ofNat 14 = 3 by decide), if_pos (show Int32.ofNat 14 = 14 from rfl), push, cal2_some, on_succ]
        exact go
      · rw [if_neg (show ¬ Int32.ofNat 15 = 3 by decide), if_neg (show ¬ Int32.ofNat 15 = 14 by decide), if_pos (show Int32.ofNat 15 = 15 from rfl), push, cal2_some, on_succ]
        exact go
      · rw [if_neg (show ¬ Int32.ofNat 16 = 3 by decide), if_neg (show ¬ Int32.ofNat 16 = 14 by decide), if_neg (show ¬ Int32.ofNat 16 = 15 by decide), if_pos (show Int32.ofNat 16 = 16 from rfl), push, cal2_some, on_succ]
        exact go
      · rw [if_neg (show ¬ Int32.ofNat 17 = 3 by decide), if_neg (show ¬ Int32.ofNat 17 = 14 by decide), if_neg (show ¬ Int32.ofNat 17 = 15 by decide), if_neg (show ¬ Int32.ofNat 17 = 16 by decide), if_pos (show Int32.ofNat 17 = 17 from rfl), push, cal2_some, on_succ]
        exact go
    · match s, hd, ho, hk, hs with
      | x :: s', _, ho, hk, hs =>
        have hx : up f 13 w 13 s'.length = x := by rw [up_same]; exact hk.1
        have hst : stp v 13 m (x :: s') = (if x = 0 then 1 else 0) :: s' := by unfold stp; rw [if_neg (by decide), if_pos rfl]
        have hl : s'.length + 1 ≤ 30 := hs
        rw [if_neg (show ¬ Int32.ofNat 13 = 3 by decide), if_neg (show ¬ Int32.ofNat 13 = 14 by decide), if_neg (show ¬ Int32.ofNat 13 = 15 by decide), if_neg (show ¬ Int32.ofNat 13 = 16 by decide), if_neg (show ¬ Int32.ofNat 13 = 17 by decide), if_neg (show ¬ Int32.ofNat 13 = 29 by decide), rdIv (v := Int32.ofNat 13) (by omega) (by decide) (by rw [up_ne (by decide)]; exact r1)]
        have wn : f_X2_work_10 (Int32.ofNat (x :: s').length) (Int32.ofNat 13) (up f 13 w, g) = some (Int32.ofNat (s'.length + 1), (up f 13 (st w s'.length (if x = 0 then 1 else 0)), g)) := by
          have := work_not (f := up f 13 w) (g := g) (l := s'.length) (by omega)
          rw [hx, upw] at this
          exact this
        rw [wn, cal2_some, on_succ, hst]
        exact ih n (i + 1) ((if x = 0 then 1 else 0) :: s') _ (by omega) r3 ho hs (SKw_push hk.2)
    · match s, hd, ho, hk, hs with
      | y :: x :: s', _, ho, hk, hs =>
        have hb2 := isB_le hb
        have hl : s'.length + 1 + 1 ≤ 30 := hs
        have hx : up f 13 w 13 s'.length = x := by rw [up_same]; exact hk.2.1
        have hy : up f 13 w 13 (s'.length + 1) = y := by rw [up_same]; exact hk.1
        have hst : stp v k m (y :: x :: s') = jn2 k x y :: s' := by unfold stp; rw [if_neg (isB_pl hb), if_neg hb2.2.2.2.2.2.2.2]
        have ne : ∀ c : Nat, c < 100 → k ≠ c → ¬ Int32.ofNat k = Int32.ofNat c := fun c hc h z => h ((on_inj (by omega) (by omega)).mp z)
        rw [if_neg (show ¬ Int32.ofNat k = 3 from ne 3 (by decide) hb2.2.1), if_neg (show ¬ Int32.ofNat k = 14 from ne 14 (by decide) hb2.2.2.1), if_neg (show ¬ Int32.ofNat k = 15 from ne 15 (by decide) hb2.2.2.2.1), if_neg (show ¬ Int32.ofNat k = 16 from ne 16 (by decide) hb2.2.2.2.2.1), if_neg (show ¬ Int32.ofNat k = 17 from ne 17 (by decide) hb2.2.2.2.2.2.1), if_neg (show ¬ Int32.ofNat k = 29 from ne 29 (by decide) hb2.2.2.2.2.2.2.1), rdIv (v := Int32.ofNat k) (by omega) (by decide) (by rw [up_ne (by decide)]; exact r1)]
        have wn : f_X2_work_10 (Int32.ofNat (y :: x :: s').length) (Int32.ofNat k) (up f 13 w, g) = some (Int32.ofNat (s'.length + 1), (up f 13 (st w s'.length (jn2 k x y)), g)) := by
          have := work_two (f := up f 13 w) (g := g) (l := s'.length) (by omega) hb
          rw [hx, hy, upw] at this
          exact this
        rw [wn, cal2_some, on_succ, hst]
        exact ih n (i + 1) (jn2 k x y :: s') _ (by omega) r3 ho (by rw [List.length_cons]; omega) (SKw_push hk.2.2)
/-- what the class's formula says -/
theorem EC_of {C : List (Nat × Nat)} (hl : C.length < 300) (h3 : f 10 3 = Int32.ofNat C.length) (hc : CLg (f 11) (f 12) (fun k => Int32.ofNat k) 0 C) (ok : okC C 1) (hp : pls C ≤ 30) : EC f (valE C) := by
  intro f' g e10 e11 e12 a b c d e
  have hR := RD_of C [] hc trivial
  rw [List.append_nil] at hR
  have hF := okF_of C [] 1 1 ok hp rfl
  rw [List.append_nil] at hF
  have hlen := evF_len (v := (a, b, c, d, e)) C.reverse [] 1 hF
  obtain ⟨w, s1, s2⟩ := c_eval (f := f') (g := g) (v := (a, b, c, d, e)) hl (by rw [e10]; exact h3) (K := fun z47 h48 => jn_X2_value_10_189 z47 h48) C.reverse (3999 - C.length) 0 [] (f' 13) (by rw [List.length_reverse]; omega) (by rw [e11, e12]; exact hR) hF (by decide) trivial
  rw [List.length_reverse, show 3999 - C.length + C.length + 1 = 4000 by omega, up_self, hlen] at s1
  refine ⟨w, ?_⟩
  unfold f_X2_value_10
  refine Eq.trans s1 ?_
  unfold valE
  revert s2 hlen
  generalize evF (a, b, c, d, e) C.reverse [] = r
  intro hlen s2
  match r, hlen, s2 with
  | [x], _, s2 =>
    show jn_X2_value_10_189 (Int32.ofNat 1) (up f' 13 w, g) = _
    unfold jn_X2_value_10_189
    have hx : up f' 13 w 13 0 = x := by rw [up_same]; exact s2.1
    rw [if_pos (by decide), show (0 : Int32) = Int32.ofNat 0 from rfl, rdIv (by decide) (by decide) hx]
    rfl
/-! the model -/
theorem asked_m {b nr i j : Nat} {hold : Nat → Int32} (M : MP (f, g) b nr hold) (W : WQ nr (f 437)) (hi : i < 8) (hj : j < 8) (gi : 0 < f 437 i) (h38 : f 413 38 = Int32.ofNat i) (h39 : f 413 39 = Int32.ofNat j) {k n : Nat} (hp : isPl k = true) {x : Int32} (hx : k = 29 → x = Int32.ofNat n) : f_X12_asked (Int32.ofNat (mch k)) x (f, g) = some (lfv (f 437 i + f 437 j, zSh (f 437) i j, zLeft hold (f 437) (rmN (f 437) i), Int32.ofNat (zC (qT (f 437))), f 437 57) k n) := by
  have r0 : ∀ (t : Nat) (F : Int32 → Option Int32), t < 8 → rdI (f, g) 437 59 ((0 : Int32) + Int32.ofNat t) F = F (f 437 t) := fun t F ht => rdA0 (h := (f, g)) ht
  have r8 : ∀ (t : Nat) (F : Int32 → Option Int32), t < 8 → rdI (f, g) 437 59 ((8 : Int32) + Int32.ofNat t) F = F (f 437 (8 + t)) := fun t F ht => rdA8 (h := (f, g)) ht
  have r16 : ∀ (t : Nat) (F : Int32 → Option Int32), t < 8 → rdI (f, g) 437 59 ((16 : Int32) + Int32.ofNat t) F = F (f 437 (16 + t)) := fun t F ht => rdA16 (h := (f, g)) ht
  unfold f_X12_asked
  rcases pl_cases hp with rfl | rfl | rfl | rfl | rfl | rfl
  · rw [show Int32.ofNat (mch 29) = 110 from rfl, if_neg (by decide), if_neg (by decide), if_neg (by decide), if_neg (by decide), if_neg (by decide), hx rfl]
    rfl
  · rw [show Int32.ofNat (mch 3) = 98 from rfl, if_neg (by decide), if_pos rfl, bndv h38, r0 i _ hi, bndv h39, r0 j _ hj]
    rfl
  · rw [show Int32.ofNat (mch 14) = 97 from rfl, if_pos rfl, bndv h38, r16 i _ hi, bndv h39, r16 j _ hj, X12_shared (h := (f, g)) W.wm hi hj, cal_some]
    rfl
  · obtain ⟨r, hr, er⟩ := W.room hi gi
    have h4 := M.2.2.2.1
    rw [show Int32.ofNat (mch 15) = 108 from rfl, if_neg (by decide), if_neg (by decide), if_pos rfl, bndv h38, r8 i _ hi, er, X12_leftIn M hr, cal_some]
    show _ = some (zLeft hold (f 437) (rmN (f 437) i))
    rw [rmN_on er (by omega)]
  · rw [show Int32.ofNat (mch 16) = 109 from rfl, if_neg (by decide), if_neg (by decide), if_neg (by decide), if_pos rfl, X12_those, cal_some, X12_bitsOf_zS, cal_some]
    rfl
  · rw [show Int32.ofNat (mch 17) = 121 from rfl, if_neg (by decide), if_neg (by decide), if_neg (by decide), if_neg (by decide), if_pos rfl, show (57 : Int32) = Int32.ofNat 57 from rfl, rdIv (by decide) (by decide) rfl]
    rfl
theorem mch_pl {k : Nat} (h : isPl k = true) : mch k < 256 ∧ ¬ Int32.ofNat (mch k) = 126 ∧ isLt (mch k) = true := by
  rcases pl_cases h with rfl | rfl | rfl | rfl | rfl | rfl <;> decide
theorem mch_B {k : Nat} (h : isB k = true) : mch k < 256 ∧ ¬ Int32.ofNat (mch k) = 126 ∧ isLt (mch k) = false := by
  have z : ∀ k : Fin 29, isB k.val = true → mch k.val < 256 ∧ ¬ Int32.ofNat (mch k.val) = 126 ∧ isLt (mch k.val) = false := by decide +kernel
  exact z ⟨k, by have := isB_le h; omega⟩ h
theorem m_eval {b nr i j en : Nat} {hold : Nat → Int32} {v : EN} (M : MP (f, g) b nr hold) (W : WQ nr (f 437)) (hi : i < 8) (hj : j < 8) (gi : 0 < f 437 i) (h38 : f 413 38 = Int32.ofNat i) (h39 : f 413 39 = Int32.ofNat j) (hv : v = (f 437 i + f 437 j, zSh (f 437) i j, zLeft hold (f 437) (rmN (f 437) i), Int32.ofNat (zC (qT (f 437))), f 437 57)) (hen : en < 1120) (h429 : f 429 b = Int32.ofNat en) {K : am_H → Option (Int32 × am_H)} : ∀ (R : List (Nat × Nat)) (n p : Nat) (s : List Int32) (w : Nat → Int32), p + R.length = en → RD (f 432) (f 433) (fun k => Int32.ofNat (mch k)) p R → okF s.length R 1 → s.length ≤ 30 → SKw w s → ∃ w', lp_X12_comes_12 K (n + R.length + 1) (Int32.ofNat s.length) (Int32.ofNat p) (up f 436 w, g) = K (up f 436 w', g) ∧ SKw w' (evF v R s) := by
  have hb := M.2.1
  have h32 : f 413 32 = Int32.ofNat b := M.1
  have u : ∀ (w : Nat → Int32) (a k : Nat) (x : Int32), a ≠ 436 → f a k = x → up f 436 w a k = x := fun w a k x z e => by rw [up_ne z]; exact e
  have Mu : ∀ w : Nat → Int32, MP (up f 436 w, g) b nr hold := fun w => by
    obtain ⟨m1, m2, m3, m4, m5⟩ := M
    exact ⟨u w 413 32 _ (by decide) m1, m2, u w 416 b _ (by decide) m3, m4, fun r hr => u w 423 _ _ (by decide) (m5 r hr)⟩
  have u437 : ∀ w : Nat → Int32, up f 436 w 437 = f 437 := fun w => up_ne (by decide)
  intro R
  induction R with
  | nil =>
    intro n p s w hp hr ho hs hk
    have hp' : p = en := hp
    rw [show n + ([] : List (Nat × Nat)).length + 1 = n + 1 from rfl, lp_X12_comes_12, bndv (u w 413 32 _ (by decide) h32), rdIv hb (by decide) (u w 429 b _ (by decide) h429), if_neg (by rw [on_lt (by omega) (by omega)]; omega)]
    exact ⟨w, rfl, hk⟩
  | cons kn R ih =>
    obtain ⟨k, m⟩ := kn
    intro n p s w hp hr ho hs hk
    rw [List.length_cons] at hp
    obtain ⟨r1, r2, r3⟩ := hr
    rw [show n + ((k, m) :: R).length + 1 = (n + R.length + 1) + 1 by rw [List.length_cons]; omega, lp_X12_comes_12, bndv (u w 413 32 _ (by decide) h32), rdIv hb (by decide) (u w 429 b _ (by decide) h429), if_pos (by rw [on_lt (by omega) (by omega)]; omega), rdIv (v := Int32.ofNat (mch k)) (by omega) (by decide) (u w 432 p _ (by decide) r1), evF]
    rw [okF] at ho
    rcases ho with ⟨hpl, hd, ho⟩ | ⟨rfl, hd, ho⟩ | ⟨hbb, hd, ho⟩
    · obtain ⟨c1, c2, c3⟩ := mch_pl hpl
      have hst : stp v k m s = lfv v k m :: s := by unfold stp; rw [if_pos hpl]
      have as := asked_m (f := up f 436 w) (g := g) (n := m) (x := f 433 p) (Mu w) (by rw [u437]; exact W) hi hj (by rw [u437]; exact gi) (u w 413 38 _ (by decide) h38) (u w 413 39 _ (by decide) h39) hpl r2
      rw [u437, ← hv] at as
      rw [if_neg c2, X12_isLetter c1, if_pos c3, cal_some, if_neg (by decide), rdIv (v := f 433 p) (by omega) (by decide) (u w 433 p _ (by decide) rfl), as, cal_some, wrIp (by omega) (by decide), upw, on_succ, on_succ, hst]
      exact ih n (p + 1) (lfv v k m :: s) (st w s.length (lfv v k m)) (by omega) r3 ho hd (SKw_push hk)
    · match s, hd, ho, hk, hs with
      | x :: s', _, ho, hk, hs =>
        have hl : s'.length + 1 ≤ 30 := hs
        have hst : stp v 13 m (x :: s') = (if x = 0 then 1 else 0) :: s' := by unfold stp; rw [if_neg (by decide), if_pos rfl]
        have e1 : Int32.ofNat (x :: s').length - 1 = Int32.ofNat s'.length := by rw [List.length_cons, on_pred (by omega), Nat.add_sub_cancel]
        have go := ih n (p + 1) ((if x = 0 then 1 else 0) :: s') (st w s'.length (if x = 0 then 1 else 0)) (by omega) r3 ho hs (SKw_push hk.2)
        rw [if_pos (show Int32.ofNat (mch 13) = 126 from rfl), e1, rdIv (v := x) (by omega) (by decide) (by rw [up_same]; exact hk.1), hst]
        by_cases c : x = 0
        · rw [if_pos c] at go ⊢
          rw [if_pos c, wrIp (by omega) (by decide), upw, on_succ]
          exact go
        · rw [if_neg c] at go ⊢
          rw [if_neg c, wrIp (by omega) (by decide), upw, on_succ]
          exact go
    · match s, hd, ho, hk, hs with
      | y :: x :: s', _, ho, hk, hs =>
        obtain ⟨c1, c2, c3⟩ := mch_B hbb
        have hb2 := isB_le hbb
        have hl : s'.length + 1 + 1 ≤ 30 := hs
        have hst : stp v k m (y :: x :: s') = jn2 k x y :: s' := by unfold stp; rw [if_neg (isB_pl hbb), if_neg hb2.2.2.2.2.2.2.2]
        have e1 : Int32.ofNat (y :: x :: s').length + (-1) = Int32.ofNat (s'.length + 1) := by rw [List.length_cons, List.length_cons, on_m1 (by omega), Nat.add_sub_cancel]
        have e2 : Int32.ofNat (s'.length + 1) - 1 = Int32.ofNat s'.length := by rw [on_pred (by omega), Nat.add_sub_cancel]
        rw [if_neg c2, X12_isLetter c1, if_neg (by rw [c3]; decide), cal_some, if_pos rfl, e1, e2, rdIv (v := x) (by omega) (by decide) (by rw [up_same]; exact hk.2.1), rdIv (v := y) (by omega) (by decide) (by rw [up_same]; exact hk.1), two_m hbb, cal_some, wrIp (by omega) (by decide), upw, on_succ, hst]
        exact ih n (p + 1) (jn2 k x y :: s') (st w s'.length (jn2 k x y)) (by omega) r3 ho (by rw [List.length_cons]; omega) (SKw_push hk.2.2)
/-- the house's formula, as the model holds it -/
def HM (f : Nat → Nat → Int32) (b : Nat) (D : DR) : Prop := f 422 b = Int32.ofNat (mbits D) ∧ (D.1 5 = 1 → f 428 b = Int32.ofNat (560 * b) ∧ f 429 b = Int32.ofNat (560 * b + D.2.2.length) ∧ CLm f (560 * b) D.2.2)
theorem EM_of {b nr : Nat} {hold : Nat → Int32} {D : DR} (hD : DV D) (hok : okD D) (h : HM f b D) : EM f b nr hold (valE D.2.2) := by
  obtain ⟨h422, hc⟩ := h
  intro f' g i j e422 e428 e429 e432 e433 M W hi hj gi gj
  have hb := M.2.1
  have h32 : f' 413 32 = Int32.ofNat b := M.1
  let f1 := am_u2 (am_u2 f' 413 38 (Int32.ofNat i)) 413 39 (Int32.ofNat j)
  have f1a : ∀ a, a ≠ 413 → f1 a = f' a := fun a z => by show am_u2 (am_u2 _ _ _ _) _ _ _ a = _; rw [u2_ne z, u2_ne z]
  have f1k : ∀ k, k ≠ 38 → k ≠ 39 → f1 413 k = f' 413 k := fun k z1 z2 => by show am_u2 (am_u2 _ _ _ _) _ _ _ 413 k = _; rw [au_nk z2, au_nk z1]
  have M1 : MP (f1, g) b nr hold := by
    obtain ⟨m1, m2, m3, m4, m5⟩ := M
    exact ⟨by show f1 413 32 = _; rw [f1k 32 (by decide) (by decide)]; exact m1, m2, by show f1 416 b = _; rw [f1a 416 (by decide)]; exact m3, m4, fun r hr => by show f1 423 _ = _; rw [f1a 423 (by decide)]; exact m5 r hr⟩
  have k38 : f1 413 38 = Int32.ofNat i := by show am_u2 (am_u2 _ _ _ _) _ _ _ 413 38 = _; rw [au_nk (by decide), au_same]
  have k39 : f1 413 39 = Int32.ofNat j := au_same
  have e37 : f1 437 = f' 437 := f1a 437 (by decide)
  have mn1 : MN f' f1 := ⟨fun a z1 z2 => f1a a z1, f1k⟩
  have bt : f_X12_bit (Int32.ofNat (mbits D)) 0 (f1, g) = some (if D.1 5 = 1 then 1 else 0) := by
    have := X12_bit (s := Int32.ofNat (mbits D)) (t := 0) (h := (f1, g))
    rw [mb_tb hD (by decide), if_dec] at this
    exact this
  have start : f_X12_broodOf (Int32.ofNat i) (Int32.ofNat j) (f', g) = (if (if D.1 5 = 1 then (1 : Int32) else 0) = 0 then rdI (f1, g) 437 59 ((16 : Int32) + Int32.ofNat i) fun v12 => rdI (f1, g) 437 59 ((16 : Int32) + Int32.ofNat j) fun v13 => cal (f_X12_sharedBy v12 v13 (f1, g)) fun v15 => cal (f_X12_those (f1, g)) fun v18 => cal (f_X12_bitsOf v18 (f1, g)) fun v21 => some ((v15 - v21), (f1, g)) else cal2 (f_X12_comes (f1, g)) fun v24 h26 => some (v24, h26)) := by
    unfold f_X12_broodOf
    rw [ptIp, ptIp, bndv (show f1 413 32 = Int32.ofNat b by rw [f1k 32 (by decide) (by decide)]; exact h32), rdIv hb (by decide) (show f1 422 b = Int32.ofNat (mbits D) by rw [f1a 422 (by decide), e422]; exact h422)]
    show cal (f_X12_bit (Int32.ofNat (mbits D)) 0 (f1, g)) _ = _
    rw [bt, cal_some]
  rw [start]
  by_cases c : D.1 5 = 1
  · obtain ⟨z1, z2, z3⟩ := hc c
    rw [if_pos c, if_neg (by decide)]
    have hl := hD.2.2.2.2.2.2.2.2.2.1
    have hR := RD_of D.2.2 [] (CLg_m z3) trivial
    rw [List.append_nil] at hR
    have hF := okF_of D.2.2 [] 1 1 hok.1 hok.2 rfl
    rw [List.append_nil] at hF
    obtain ⟨w, s1, s2⟩ := m_eval (f := f1) (g := g) (v := (f1 437 i + f1 437 j, zSh (f1 437) i j, zLeft hold (f1 437) (rmN (f1 437) i), Int32.ofNat (zC (qT (f1 437))), f1 437 57)) M1 (by rw [e37]; exact W) hi hj (by rw [e37]; exact gi) k38 k39 rfl (en := 560 * b + D.2.2.length) (by omega) (by rw [f1a 429 (by decide), e429]; exact z2) (K := fun h31 => rdI h31 436 60 0 fun v33 => some (v33, h31)) D.2.2.reverse (3999 - D.2.2.length) (560 * b) [] (f1 436) (by rw [List.length_reverse]) (by rw [f1a 432 (by decide), f1a 433 (by decide), e432, e433]; exact hR) hF (by decide) trivial
    have hlen := evF_len (v := (f1 437 i + f1 437 j, zSh (f1 437) i j, zLeft hold (f1 437) (rmN (f1 437) i), Int32.ofNat (zC (qT (f1 437))), f1 437 57)) D.2.2.reverse [] 1 hF
    rw [List.length_reverse, show 3999 - D.2.2.length + D.2.2.length + 1 = 4000 by omega, up_self] at s1
    have cm : f_X12_comes (f1, g) = rdI (up f1 436 w, g) 436 60 0 fun v33 => some (v33, (up f1 436 w, g)) := by
      unfold f_X12_comes
      rw [bndv (show f1 413 32 = Int32.ofNat b by rw [f1k 32 (by decide) (by decide)]; exact h32), rdIv hb (by decide) (show f1 428 b = Int32.ofNat (560 * b) by rw [f1a 428 (by decide), e428]; exact z1)]
      exact s1
    refine ⟨up f1 436 w, ?_, ⟨fun a y1 y2 => by rw [up_ne y2, f1a a y1], fun k y1 y2 => by rw [up_ne (by decide), f1k k y1 y2]⟩⟩
    rw [cm]
    unfold zBr valE
    rw [← e37]
    revert s2 hlen
    generalize evF (f1 437 i + f1 437 j, zSh (f1 437) i j, zLeft hold (f1 437) (rmN (f1 437) i), Int32.ofNat (zC (qT (f1 437))), f1 437 57) D.2.2.reverse [] = r
    intro s2 hlen
    match r, hlen, s2 with
    | [x], _, s2 =>
      rw [show (0 : Int32) = Int32.ofNat 0 from rfl, rdIv (v := x) (by decide) (by decide) (by rw [up_same]; exact s2.1), cal2_some]
      rfl
  · rw [if_neg c, if_pos rfl]
    have hd := (hD.2.2.2.2.2.2.2.2.2.2 (by have := hD.2.2.2.2.2.1.1; omega)).2
    refine ⟨f1, ?_, mn1⟩
    have r16 : ∀ (t : Nat) (F : Int32 → Option (Int32 × am_H)), t < 8 → rdI (f1, g) 437 59 ((16 : Int32) + Int32.ofNat t) F = F (f1 437 (16 + t)) := fun t F ht => rdA16 (h := (f1, g)) ht
    rw [r16 i _ hi, r16 j _ hj, X12_shared (h := (f1, g)) (by show WM (f1 437); rw [e37]; exact W.wm) hi hj, cal_some, X12_those, cal_some, X12_bitsOf_zS, cal_some]
    unfold zBr valE
    rw [hd, ← e37]
    rfl
end EVA
