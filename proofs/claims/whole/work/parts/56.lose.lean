/-! A place is made free, on both sides -/
theorem st_same {q : Nat → Int32} {k : Nat} {v : Int32} : st q k v k = v := by simp [st]
theorem st_ne {q : Nat → Int32} {k j : Nat} {v : Int32} (h : j ≠ k) : st q k v j = q j := by simp [st, h]
theorem au_same {f : Nat → Nat → Int32} {a k : Nat} {v : Int32} : am_u2 f a k v a k = v := by simp [am_u2]
theorem au_ne {f : Nat → Nat → Int32} {a b k j : Nat} {v : Int32} (h : b ≠ a) : am_u2 f a k v b j = f b j := by simp [am_u2, h]
theorem au_nk {f : Nat → Nat → Int32} {a b k j : Nat} {v : Int32} (h : j ≠ k) : am_u2 f a k v b j = f b j := by simp [am_u2, h]
def zLose (t : Nat) (q : Nat → Int32) : Nat → Int32 := fun j => if j = t ∨ j = 8 + t ∨ j = 16 + t ∨ j = 24 + t ∨ j = 32 + t then 0 else if j = 40 + t ∨ j = 48 + t then -1 else if 40 ≤ j ∧ j < 56 ∧ q j = Int32.ofNat t then -1 else q j
theorem zLose_z {t j : Nat} {q : Nat → Int32} (h : j = t ∨ j = 8 + t ∨ j = 16 + t ∨ j = 24 + t ∨ j = 32 + t) : zLose t q j = 0 := if_pos h
theorem zLose_o {t j : Nat} {q : Nat → Int32} (h : ¬ (j = t ∨ j = 8 + t ∨ j = 16 + t ∨ j = 24 + t ∨ j = 32 + t)) (h2 : ¬ (40 ≤ j ∧ j < 56)) (h3 : ¬ (j = 40 + t ∨ j = 48 + t)) : zLose t q j = q j := by
  unfold zLose
  rw [if_neg h, if_neg h3, if_neg (fun z => h2 ⟨z.1, z.2.1⟩)]
theorem zLose_p {t j : Nat} {q : Nat → Int32} (ht : t < 8) (h2 : 40 ≤ j ∧ j < 56) : zLose t q j = if j = 40 + t ∨ j = 48 + t then -1 else if q j = Int32.ofNat t then -1 else q j := by
  unfold zLose
  rw [if_neg (by omega)]
  by_cases h : j = 40 + t ∨ j = 48 + t
  · rw [if_pos h, if_pos h]
  · rw [if_neg h, if_neg h]
    simp [h2]
theorem rmI_at {s t : Nat} {f : Nat → Nat → Int32} {k : Nat} (hk : k < 8) : rmI s t f (s + 1) k = (if k = t then 0 else f (s + 1) k) ∧ rmI s t f (s + 2) k = (if k = t then -1 else f (s + 2) k) ∧ rmI s t f (s + 3) k = (if k = t then 0 else f (s + 3) k) ∧ rmI s t f (s + 4) k = (if k = t then 0 else f (s + 4) k) ∧ rmI s t f (s + 5) k = (if k = t then 0 else f (s + 5) k) ∧ rmI s t f (s + 6) k = (if k = t then -1 else if f (s + 6) k = Int32.ofNat t then -1 else f (s + 6) k) ∧ rmI s t f (s + 7) k = (if k = t then -1 else if f (s + 7) k = Int32.ofNat t then -1 else f (s + 7) k) := by
  refine ⟨?_, ?_, ?_, ?_, ?_, ?_, ?_⟩
  · simp [rmI, rmS, am_u2]
  · simp [rmI, rmS, am_u2]
  · simp [rmI, rmS, am_u2]
  · simp [rmI, rmS, am_u2]
  · simp [rmI, rmS, am_u2]
  · by_cases h : k = t
    · subst h; simp [rmI, rmS, am_u2, hk]
    · simp [rmI, rmS, am_u2, hk, h]
  · by_cases h : k = t
    · subst h; simp [rmI, rmS, am_u2, hk]
    · simp [rmI, rmS, am_u2, hk, h]
theorem rmI_ne {s t a : Nat} {f : Nat → Nat → Int32} (h : ¬ (s < a ∧ a < s + 8)) : rmI s t f a = f a := by
  have h1 : a ≠ s + 1 := by omega
  have h2 : a ≠ s + 2 := by omega
  have h3 : a ≠ s + 3 := by omega
  have h4 : a ≠ s + 4 := by omega
  have h5 : a ≠ s + 5 := by omega
  have h6 : a ≠ s + 6 := by omega
  have h7 : a ≠ s + 7 := by omega
  funext k
  simp [rmI, rmS, am_u2, h1, h2, h3, h4, h5, h6, h7]
theorem RC_lose {s t : Nat} {q : Nat → Int32} {f : Nat → Nat → Int32} (R : RC s q f) (ht : t < 8) : RC s (zLose t q) (rmI s t f) := by
  refine ⟨fun k hk => ?_, ?_, ?_, ?_⟩
  · obtain ⟨r1, r2, r3, r4, r5, r6, r7⟩ := R.1 k hk
    obtain ⟨e1, e2, e3, e4, e5, e6, e7⟩ := rmI_at (s := s) (t := t) (f := f) hk
    rw [e1, e2, e3, e4, e5, e6, e7, r1, r2, r3, r4, r5, r6, r7]
    by_cases h : k = t
    · subst h
      rw [zLose_z (by omega), zLose_z (j := 16 + k) (by omega), zLose_z (j := 24 + k) (by omega), zLose_z (j := 32 + k) (by omega), zLose_p (j := 40 + k) ht (by omega), zLose_p (j := 48 + k) ht (by omega)]
      simp
    · rw [zLose_o (by omega) (by omega) (by omega), zLose_o (j := 8 + k) (by omega) (by omega) (by omega), zLose_o (j := 16 + k) (by omega) (by omega) (by omega), zLose_o (j := 24 + k) (by omega) (by omega) (by omega), zLose_o (j := 32 + k) (by omega) (by omega) (by omega), zLose_p (j := 40 + k) ht (by omega), zLose_p (j := 48 + k) ht (by omega)]
      rw [if_neg (show ¬ (40 + k = 40 + t ∨ 40 + k = 48 + t) by omega), if_neg (show ¬ (48 + k = 40 + t ∨ 48 + k = 48 + t) by omega)]
      simp [h]
  · rw [rmI_ne (by omega), zLose_o (by omega) (by omega) (by omega)]; exact R.2.1
  · rw [rmI_ne (by omega), zLose_o (by omega) (by omega) (by omega)]; exact R.2.2.1
  · rw [rmI_ne (by omega), zLose_o (by omega) (by omega) (by omega)]; exact R.2.2.2
/-- the model's -/
def zCl (t : Nat) (q : Nat → Int32) : Nat → Int32 := st (st (st (st (st (st (st q t 0) (8 + t) 0) (16 + t) 0) (24 + t) 0) (32 + t) 0) (40 + t) (-1)) (48 + t) (-1)
theorem up_hu {f : Nat → Nat → Int32} {q : Nat → Int32} {k : Nat} {v : Int32} : am_u2 (up f 437 q) 437 k v = up f 437 (st q k v) := by rw [u2_up, up_same, up_up]
theorem X12_clearPlace {t : Nat} (ht : t < 8) {f : Nat → Nat → Int32} {g : (Nat → Nat → Int64) × (Nat → Nat → Option Nat)} {q : Nat → Int32} : f_X12_clearPlace (Int32.ofNat t) (up f 437 q, g) = some (up f 437 (zCl t q), g) := by
  unfold f_X12_clearPlace
  rw [wrA0 ht, wrA8 ht, wrA16 ht, wrA24 ht, wrA32 ht, wrA40 ht, wrA48 ht]
  simp only [up_hu]
  rfl
def zLk (x : Int32) (k : Nat) (q : Nat → Int32) : Nat → Int32 := fun j => if (40 + k ≤ j ∧ j < 48 ∨ 48 + k ≤ j ∧ j < 56) ∧ q j = x then -1 else q j
theorem m_lose {x : Int32} (hx : ¬ x = -1) {f : Nat → Nat → Int32} {g : (Nat → Nat → Int64) × (Nat → Nat → Option Nat)} : ∀ m n t (q : Nat → Int32), t + m = 8 → lp_X12_loseOne_7 x (n + m + 1) (Int32.ofNat t) (up f 437 q, g) = some (up f 437 (zLk x t q), g) := by
  intro m
  induction m with
  | zero =>
    intro n t q ht
    obtain rfl : t = 8 := by omega
    rw [lp_X12_loseOne_7, if_neg (by decide)]
    have : zLk x 8 q = q := by
      funext j
      unfold zLk
      rw [if_neg (by omega)]
    rw [this]
  | succ m ih =>
    intro n t q ht
    have h8 : t < 8 := by omega
    have e : ∀ q, lp_X12_loseOne_7 x (n + (m + 1)) (Int32.ofNat (t + 1)) (up f 437 q, g) = _ := fun q => ih n (t + 1) q (by omega)
    have fin : ∀ q' : Nat → Int32, (∀ j, q' j = if (j = 40 + t ∨ j = 48 + t) ∧ q j = x then -1 else q j) → zLk x (t + 1) q' = zLk x t q := by
      intro q' hq'
      funext j
      unfold zLk
      rw [hq' j]
      by_cases h1 : j = 40 + t
      · subst h1
        rw [if_neg (fun z => by have := z.1; omega)]
        by_cases h2 : q (40 + t) = x
        · rw [if_pos ⟨Or.inl rfl, h2⟩, if_pos ⟨by omega, h2⟩]
        · rw [if_neg (fun z => h2 z.2), if_neg (fun z => h2 z.2)]
      · by_cases h3 : j = 48 + t
        · subst h3
          rw [if_neg (fun z => by have := z.1; omega)]
          by_cases h2 : q (48 + t) = x
          · rw [if_pos ⟨Or.inr rfl, h2⟩, if_pos ⟨by omega, h2⟩]
          · rw [if_neg (fun z => h2 z.2), if_neg (fun z => h2 z.2)]
        · rw [if_neg (show ¬ ((j = 40 + t ∨ j = 48 + t) ∧ q j = x) from fun z => by omega)]
          by_cases h4 : (40 + (t + 1) ≤ j ∧ j < 48 ∨ 48 + (t + 1) ≤ j ∧ j < 56)
          · have h5 : (40 + t ≤ j ∧ j < 48 ∨ 48 + t ≤ j ∧ j < 56) := by omega
            simp [h4, h5]
          · have h5 : ¬ (40 + t ≤ j ∧ j < 48 ∨ 48 + t ≤ j ∧ j < 56) := by omega
            simp [h4, h5]
    rw [lp_X12_loseOne_7, if_pos (i8_lt t h8), rdA40 h8]
    unfold jn_X12_loseOne_36
    simp only [rdA48 h8, wrA40 h8, wrA48 h8, i8_succ t h8, up_hu, up_same, e]
    have h48 : st q (40 + t) (-1) (48 + t) = q (48 + t) := st_ne (by omega)
    rw [h48]
    by_cases h1 : q (40 + t) = x
    · rw [if_pos h1]
      by_cases h2 : q (48 + t) = x
      · rw [if_pos h2, fin]
        intro j
        by_cases h3 : j = 40 + t
        · subst h3; simp [st, h1]
        · by_cases h4 : j = 48 + t
          · subst h4; simp [st, h2]
          · simp [st, h3, h4]
      · rw [if_neg h2, fin]
        intro j
        by_cases h3 : j = 40 + t
        · subst h3; simp [st, h1]
        · by_cases h4 : j = 48 + t
          · subst h4; simp [st, h2]
          · simp [st, h3, h4]
    · rw [if_neg h1]
      by_cases h2 : q (48 + t) = x
      · rw [if_pos h2, fin]
        intro j
        by_cases h3 : j = 40 + t
        · subst h3; simp [st, h1]
        · by_cases h4 : j = 48 + t
          · subst h4; simp [st, h2]
          · simp [st, h3, h4]
      · rw [if_neg h2, fin]
        intro j
        by_cases h3 : j = 40 + t
        · subst h3; simp [h1]
        · by_cases h4 : j = 48 + t
          · subst h4; simp [h2]
          · simp [h3, h4]
theorem zLk_Cl {t : Nat} (ht : t < 8) {q : Nat → Int32} : zLk (Int32.ofNat t) 0 (zCl t q) = zLose t q := by
  funext j
  have hx : ¬ (-1 : Int32) = Int32.ofNat t := i8_neg t ht
  by_cases h1 : j = 40 + t
  · subst h1
    rw [zLose_p ht (by omega), if_pos (Or.inl rfl)]
    unfold zLk
    have : zCl t q (40 + t) = -1 := by
      unfold zCl
      rw [st_ne (by omega), st_same]
    rw [this, if_neg (fun z => hx z.2)]
  · by_cases h2 : j = 48 + t
    · subst h2
      rw [zLose_p ht (by omega), if_pos (Or.inr rfl)]
      unfold zLk
      have : zCl t q (48 + t) = -1 := by
        unfold zCl
        rw [st_same]
      rw [this, if_neg (fun z => hx z.2)]
    · by_cases h3 : j = t ∨ j = 8 + t ∨ j = 16 + t ∨ j = 24 + t ∨ j = 32 + t
      · rw [zLose_z h3]
        unfold zLk
        have : zCl t q j = 0 := by
          unfold zCl
          rcases h3 with rfl | rfl | rfl | rfl | rfl <;> simp (disch := omega) only [st_ne, st_same]
        rw [this, if_neg (fun z => by omega)]
      · have : zCl t q j = q j := by
          unfold zCl
          simp (disch := omega) only [st_ne]
        unfold zLk zLose
        rw [this, if_neg h3, if_neg (show ¬ (j = 40 + t ∨ j = 48 + t) by omega)]
        by_cases h4 : 40 ≤ j ∧ j < 56
        · have h5 : 40 + 0 ≤ j ∧ j < 48 ∨ 48 + 0 ≤ j ∧ j < 56 := by omega
          by_cases hq : q j = Int32.ofNat t
          · rw [if_pos ⟨h5, hq⟩, if_pos ⟨h4.1, h4.2, hq⟩]
          · rw [if_neg (fun z => hq z.2), if_neg (fun z => hq z.2.2)]
        · have h5 : ¬ (40 + 0 ≤ j ∧ j < 48 ∨ 48 + 0 ≤ j ∧ j < 56) := by omega
          rw [if_neg (fun z => h5 z.1), if_neg (fun z => h4 ⟨z.1, z.2.1⟩)]
theorem X12_loseOne {t : Nat} (ht : t < 8) {f : Nat → Nat → Int32} {g : (Nat → Nat → Int64) × (Nat → Nat → Option Nat)} {q : Nat → Int32} : f_X12_loseOne (Int32.ofNat t) (up f 437 q, g) = some (up f 437 (zLose t q), g) := by
  unfold f_X12_loseOne
  rw [X12_clearPlace ht, cal_some, ← zLk_Cl ht]
  exact m_lose (i8_ne ht) 8 3991 0 _ rfl
