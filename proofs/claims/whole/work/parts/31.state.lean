/-! A State: remove, and what its constructor leaves -/
theorem i8_lt : ∀ j, j < 8 → Int32.ofNat j < 8 := by decide +kernel
theorem i8_ge : ∀ j, j < 9 → ¬ Int32.ofNat j < 0 := by decide +kernel
theorem i8_in : ∀ j, j < 8 → (0 ≤ (Int32.ofNat j).toInt ∧ (Int32.ofNat j).toInt < (8 : Nat)) := by decide +kernel
theorem i8_nat : ∀ j, j < 8 → (Int32.ofNat j).toNatClampNeg = j := by decide +kernel
theorem i8_succ : ∀ j, j < 8 → Int32.ofNat j + 1 = Int32.ofNat (j + 1) := by decide +kernel
theorem i8_neg : ∀ j, j < 8 → ¬ (-1 : Int32) = Int32.ofNat j := by decide +kernel
theorem i8_zero : ∀ j, j < 8 → ((0 : Int32) = Int32.ofNat j ↔ j = 0) := by decide +kernel
theorem i8_amin {j : Nat} (hj : j < 8) : am_in (Int32.ofNat j) 8 := i8_in j hj
theorem rdI_i8 {ρ : Type} {h : am_H} {a j : Nat} {F : Int32 → Option ρ} (hj : j < 8) : rdI h a 8 (Int32.ofNat j) F = F (h.1 a j) := by
  unfold rdI
  rw [if_pos (i8_amin hj), i8_nat j hj]
theorem wrI_i8 {ρ : Type} {h : am_H} {a j : Nat} {v : Int32} {F : am_H → Option ρ} (hj : j < 8) : wrI h a 8 (Int32.ofNat j) v F = F (am_u2 h.1 a j v, h.2) := by
  unfold wrI
  rw [if_pos (i8_amin hj), i8_nat j hj]
def rmS (s : Nat) (x : Int32) (j : Nat) (f : Nat → Nat → Int32) : Nat → Nat → Int32 := fun a k => if (a = s + 6 ∨ a = s + 7) ∧ j ≤ k ∧ k < 8 ∧ f a k = x then -1 else f a k
def rmT (s : Nat) (x : Int32) (j : Nat) (f : Nat → Nat → Int32) : Nat → Nat → Int32 := fun a k => if (a = s + 6 ∨ a = s + 7) ∧ k = j ∧ f a k = x then -1 else f a k
theorem rm_next {s : Nat} {x : Int32} {j : Nat} {f : Nat → Nat → Int32} (hj : j < 8) : rmS s x (j + 1) (rmT s x j f) = rmS s x j f := by
  funext a k
  unfold rmS rmT
  by_cases ha : a = s + 6 ∨ a = s + 7
  · by_cases hk : k = j
    · subst hk
      by_cases hf : f a k = x <;> simp [ha, hf, hj]
    · by_cases h1 : j + 1 ≤ k
      · have : j ≤ k := by omega
        simp [ha, hk, h1, this]
      · have : ¬ j ≤ k := by omega
        simp [ha, hk, h1, this]
  · simp [ha]
theorem rm_step {s : Nat} {x : Int32} {n j : Nat} {f : Nat → Nat → Int32} {g : (Nat → Nat → Int64) × (Nat → Nat → Option Nat)} (hj : j < 8) : lp_X7_remove_62 s x (n + 1) (Int32.ofNat j) (f, g) = lp_X7_remove_62 s x n (Int32.ofNat (j + 1)) (rmT s x j f, g) := by
  rw [lp_X7_remove_62, if_pos (i8_lt j hj), rdI_i8 hj]
  unfold jn_X7_remove_85
  by_cases h6 : f (s + 6) j = x
  · rw [if_pos (by exact h6), wrI_i8 hj, rdI_i8 hj]
    have e7 : am_u2 f (s + 6) j (-1) (s + 7) j = f (s + 7) j := by simp [am_u2]
    simp only [e7]
    by_cases h7 : f (s + 7) j = x
    · rw [if_pos h7, wrI_i8 hj, i8_succ j hj]
      congr 2
      funext a k
      unfold rmT am_u2
      by_cases h1 : a = s + 6
      · subst h1
        by_cases hk : k = j
        · subst hk; simp [h6]
        · simp [hk]
      · by_cases h2 : a = s + 7
        · subst h2
          by_cases hk : k = j
          · subst hk; simp [h7]
          · simp [hk]
        · simp [h1, h2]
    · rw [if_neg h7, i8_succ j hj]
      congr 2
      funext a k
      unfold rmT am_u2
      by_cases h1 : a = s + 6
      · subst h1
        by_cases hk : k = j
        · subst hk; simp [h6]
        · simp [hk]
      · by_cases h2 : a = s + 7
        · subst h2
          by_cases hk : k = j
          · subst hk; simp [h7]
          · simp [hk]
        · simp [h1, h2]
  · rw [if_neg (by exact h6), rdI_i8 hj]
    by_cases h7 : f (s + 7) j = x
    · rw [if_pos (by exact h7), wrI_i8 hj, i8_succ j hj]
      congr 2
      funext a k
      unfold rmT am_u2
      by_cases h1 : a = s + 6
      · subst h1
        by_cases hk : k = j
        · subst hk; simp [h6]
        · simp [hk]
      · by_cases h2 : a = s + 7
        · subst h2
          by_cases hk : k = j
          · subst hk; simp [h7]
          · simp [hk]
        · simp [h1, h2]
    · rw [if_neg (by exact h7), i8_succ j hj]
      congr 2
      funext a k
      unfold rmT
      by_cases h1 : a = s + 6
      · subst h1
        by_cases hk : k = j
        · subst hk; simp [h6]
        · simp [hk]
      · by_cases h2 : a = s + 7
        · subst h2
          by_cases hk : k = j
          · subst hk; simp [h7]
          · simp [hk]
        · simp [h1, h2]
theorem rm_loop {s : Nat} {x : Int32} {g : (Nat → Nat → Int64) × (Nat → Nat → Option Nat)} : ∀ (m n j : Nat) (f : Nat → Nat → Int32), j + m = 8 → lp_X7_remove_62 s x (n + m + 1) (Int32.ofNat j) (f, g) = some (rmS s x j f, g)
  | 0, n, j, f, hj => by
    obtain rfl : j = 8 := by omega
    rw [lp_X7_remove_62, if_neg (by decide)]
    congr 2
    funext a k
    unfold rmS
    rw [if_neg (by omega)]
  | m + 1, n, j, f, hj => by
    have e : n + (m + 1) + 1 = (n + m + 1) + 1 := by omega
    rw [e, rm_step (by omega), rm_loop m n (j + 1) _ (by omega), rm_next (by omega)]
/-- the place t of State s is made free -/
def rmI (s t : Nat) (f : Nat → Nat → Int32) : Nat → Nat → Int32 := rmS s (Int32.ofNat t) 0 (am_u2 (am_u2 (am_u2 (am_u2 (am_u2 (am_u2 (am_u2 f (s + 1) t 0) (s + 2) t (-1)) (s + 3) t 0) (s + 4) t 0) (s + 5) t 0) (s + 6) t (-1)) (s + 7) t (-1))
theorem fX7_remove {s t : Nat} {h : am_H} (ht : t < 8) : f_X7_remove s (Int32.ofNat t) h = some (rmI s t h.1, h.2) := by
  unfold f_X7_remove
  rw [if_neg (i8_ge t (by omega)), if_pos (i8_lt t ht), wrI_i8 ht, wrI_i8 ht, wrI_i8 ht, wrI_i8 ht, wrI_i8 ht, wrI_i8 ht, wrI_i8 ht]
  exact rm_loop 8 3991 0 _ rfl
/-- a new State, j of its places made free -/
def stJ (s j : Nat) (f : Nat → Nat → Int32) : Nat → Nat → Int32 := fun a k => if s < a ∧ a < s + 8 then (if (a = s + 2 ∧ k < j) ∨ ((a = s + 6 ∨ a = s + 7) ∧ k < 8 ∧ 0 < j) then -1 else 0) else if a = s ∧ (k = 8 ∨ k = 9 ∨ k = 10) then 0 else f a k
theorem stJ_next {s j : Nat} {f : Nat → Nat → Int32} (hj : j < 8) : rmI s j (stJ s j f) = stJ s (j + 1) f := by
  funext a k
  have hz := i8_zero j hj
  have hn := i8_neg j hj
  by_cases ha : s < a ∧ a < s + 8
  · rcases (show a = s + 1 ∨ a = s + 2 ∨ a = s + 3 ∨ a = s + 4 ∨ a = s + 5 ∨ a = s + 6 ∨ a = s + 7 by omega) with e | e | e | e | e | e | e
    all_goals subst e
    · by_cases hk : k = j <;> simp [rmI, rmS, am_u2, stJ, hk]
    · by_cases hk : k = j
      · subst hk; simp [rmI, rmS, am_u2, stJ]
      · have : (k < j + 1) ↔ (k < j) := by omega
        simp [rmI, rmS, am_u2, stJ, hk, this]
    · by_cases hk : k = j <;> simp [rmI, rmS, am_u2, stJ, hk]
    · by_cases hk : k = j <;> simp [rmI, rmS, am_u2, stJ, hk]
    · by_cases hk : k = j <;> simp [rmI, rmS, am_u2, stJ, hk]
    · by_cases h8 : k < 8
      · by_cases hk : k = j
        · subst hk
          simp [rmI, rmS, am_u2, stJ, h8]
        · by_cases h0 : j = 0
          · subst h0
            simp [rmI, rmS, am_u2, stJ, hk, h8]
          · have h0' : 0 < j := by omega
            simp [rmI, rmS, am_u2, stJ, hk, h8, h0']
      · have hk : ¬ k = j := by omega
        simp [rmI, rmS, am_u2, stJ, hk, h8]
    · by_cases h8 : k < 8
      · by_cases hk : k = j
        · subst hk
          simp [rmI, rmS, am_u2, stJ, h8]
        · by_cases h0 : j = 0
          · subst h0
            simp [rmI, rmS, am_u2, stJ, hk, h8]
          · have h0' : 0 < j := by omega
            simp [rmI, rmS, am_u2, stJ, hk, h8, h0']
      · have hk : ¬ k = j := by omega
        simp [rmI, rmS, am_u2, stJ, hk, h8]
  · have h1 : ¬ a = s + 1 := by omega
    have h2 : ¬ a = s + 2 := by omega
    have h3 : ¬ a = s + 3 := by omega
    have h4 : ¬ a = s + 4 := by omega
    have h5 : ¬ a = s + 5 := by omega
    have h6 : ¬ a = s + 6 := by omega
    have h7 : ¬ a = s + 7 := by omega
    simp only [rmI, rmS, am_u2, stJ, ha, h1, h2, h3, h4, h5, h6, h7, false_and, or_self, if_false]
theorem st_loop {s : Nat} {g : (Nat → Nat → Int64) × (Nat → Nat → Option Nat)} (hp : am_PSb s g.2 = true) {f : Nat → Nat → Int32} : ∀ (m n j : Nat), j + m = 8 → lp_cX7_init_82 s (n + m + 1) (Int32.ofNat j) (stJ s j f, g) = some (stJ s 8 f, g)
  | 0, n, j, hj => by
    obtain rfl : j = 8 := by omega
    rw [lp_cX7_init_82, if_neg (by decide)]
  | m + 1, n, j, hj => by
    have e : n + (m + 1) + 1 = (n + m + 1) + 1 := by omega
    rw [e, lp_cX7_init_82, if_pos (i8_lt j (by omega))]
    unfold chk
    rw [if_pos hp, fX7_remove (by omega)]
    unfold cal
    simp only
    rw [stJ_next (by omega), i8_succ j (by omega)]
    exact st_loop hp m n (j + 1) (by omega)
/-- what State's constructor leaves -/
def stN (s : Nat) (h : am_H) : am_H := (stJ s 8 h.1, (fun a k => if s < a ∧ a < s + 8 then 0 else h.2.1 a k), (fun a k => if s < a ∧ a < s + 8 then none else if a = s ∧ k < 8 then (if k = 0 then some 4 else some (s + k)) else h.2.2 a k))
theorem f_cX7_init_eq {s : Nat} {h : am_H} : f_cX7_init s h = some (stN s h) := by
  unfold f_cX7_init nwH ptR ptI
  simp only
  refine Eq.trans (b := lp_cX7_init_82 s 4000 (Int32.ofNat 0) (stJ s 0 h.1, (stN s h).2)) ?_ ?_
  · congr 2
    · funext a k
      by_cases ha : s < a ∧ a < s + 8
      · rcases (show a = s + 1 ∨ a = s + 2 ∨ a = s + 3 ∨ a = s + 4 ∨ a = s + 5 ∨ a = s + 6 ∨ a = s + 7 by omega) with e | e | e | e | e | e | e
        all_goals subst e
        all_goals simp [am_u2, stJ]
      · have h1 : ¬ a = s + 1 := by omega
        have h2 : ¬ a = s + 2 := by omega
        have h3 : ¬ a = s + 3 := by omega
        have h4 : ¬ a = s + 4 := by omega
        have h5 : ¬ a = s + 5 := by omega
        have h6 : ¬ a = s + 6 := by omega
        have h7 : ¬ a = s + 7 := by omega
        by_cases hs : a = s
        · subst hs
          by_cases h8 : k = 8
          · simp [am_u2, stJ, h8]
          · by_cases h9 : k = 9
            · simp [am_u2, stJ, h9]
            · by_cases h10 : k = 10 <;> simp [am_u2, stJ, h8, h9, h10]
        · simp [am_u2, stJ, ha, hs, h1, h2, h3, h4, h5, h6, h7]
    · unfold stN
      simp only
      congr 1
      · funext a k
        by_cases ha : s < a ∧ a < s + 8
        · rcases (show a = s + 1 ∨ a = s + 2 ∨ a = s + 3 ∨ a = s + 4 ∨ a = s + 5 ∨ a = s + 6 ∨ a = s + 7 by omega) with e | e | e | e | e | e | e
          all_goals subst e
          all_goals simp
        · have h1 : ¬ a = s + 1 := by omega
          have h2 : ¬ a = s + 2 := by omega
          have h3 : ¬ a = s + 3 := by omega
          have h4 : ¬ a = s + 4 := by omega
          have h5 : ¬ a = s + 5 := by omega
          have h6 : ¬ a = s + 6 := by omega
          have h7 : ¬ a = s + 7 := by omega
          simp only [ha, h1, h2, h3, h4, h5, h6, h7, if_false]
      · funext a k
        by_cases ha : s < a ∧ a < s + 8
        · rcases (show a = s + 1 ∨ a = s + 2 ∨ a = s + 3 ∨ a = s + 4 ∨ a = s + 5 ∨ a = s + 6 ∨ a = s + 7 by omega) with e | e | e | e | e | e | e
          all_goals subst e
          all_goals simp [am_u2]
        · have h1 : ¬ a = s + 1 := by omega
          have h2 : ¬ a = s + 2 := by omega
          have h3 : ¬ a = s + 3 := by omega
          have h4 : ¬ a = s + 4 := by omega
          have h5 : ¬ a = s + 5 := by omega
          have h6 : ¬ a = s + 6 := by omega
          have h7 : ¬ a = s + 7 := by omega
          by_cases hs : a = s
          · subst hs
            by_cases h8 : k < 8
            · rcases (show k = 0 ∨ k = 1 ∨ k = 2 ∨ k = 3 ∨ k = 4 ∨ k = 5 ∨ k = 6 ∨ k = 7 by omega) with e | e | e | e | e | e | e | e
              all_goals subst e
              all_goals simp [am_u2]
            · have k0 : ¬ k = 0 := by omega
              have k1 : ¬ k = 1 := by omega
              have k2 : ¬ k = 2 := by omega
              have k3 : ¬ k = 3 := by omega
              have k4 : ¬ k = 4 := by omega
              have k5 : ¬ k = 5 := by omega
              have k6 : ¬ k = 6 := by omega
              have k7 : ¬ k = 7 := by omega
              simp [am_u2, h8, k0, k1, k2, k3, k4, k5, k6, k7]
          · simp [am_u2, ha, hs, h1, h2, h3, h4, h5, h6, h7]
  · refine st_loop ?_ 8 3991 0 rfl
    simp [am_PSb, stN]
