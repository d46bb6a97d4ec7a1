/-! A row of cells (the model's), a State of the class that says the same -/
theorem fo_ind {α : Type} {f : Nat → α → α} {P : Nat → α → Prop} (h : ∀ t a, t < 8 → P t a → P (t + 1) (f t a)) {a : α} (h0 : P 0 a) : P 8 (fo f 8 0 a) := by
  have k : ∀ m t a, t + m = 8 → P t a → P 8 (fo f m t a) := by
    intro m
    induction m with
    | zero => intro t a ht hp; obtain rfl : t = 8 := (by omega); exact hp
    | succ m ih => intro t a ht hp; exact ih (t + 1) _ (by omega) (h t a (by omega) hp)
  exact k 8 0 a rfl h0
def RC (s : Nat) (q : Nat → Int32) (f : Nat → Nat → Int32) : Prop :=
  (∀ t, t < 8 → f (s + 1) t = q t ∧ f (s + 2) t = (if q t = 0 then -1 else q (8 + t)) ∧ f (s + 3) t = q (16 + t) ∧ f (s + 4) t = q (24 + t) ∧ f (s + 5) t = q (32 + t) ∧ f (s + 6) t = q (40 + t) ∧ f (s + 7) t = q (48 + t)) ∧ f s 8 = q 56 ∧ f s 9 = q 57 ∧ f s 10 = q 58
theorem rdS1 {ρ : Type} {s t : Nat} {q : Nat → Int32} {h : am_H} {F : Int32 → Option ρ} (R : RC s q h.1) (ht : t < 8) : rdI h (s + 1) 8 (Int32.ofNat t) F = F (q t) := by rw [rdI_i8 ht, (R.1 t ht).1]
theorem rdS2 {ρ : Type} {s t : Nat} {q : Nat → Int32} {h : am_H} {F : Int32 → Option ρ} (R : RC s q h.1) (ht : t < 8) : rdI h (s + 2) 8 (Int32.ofNat t) F = F (if q t = 0 then -1 else q (8 + t)) := by rw [rdI_i8 ht, (R.1 t ht).2.1]
theorem rdS3 {ρ : Type} {s t : Nat} {q : Nat → Int32} {h : am_H} {F : Int32 → Option ρ} (R : RC s q h.1) (ht : t < 8) : rdI h (s + 3) 8 (Int32.ofNat t) F = F (q (16 + t)) := by rw [rdI_i8 ht, (R.1 t ht).2.2.1]
theorem rdS4 {ρ : Type} {s t : Nat} {q : Nat → Int32} {h : am_H} {F : Int32 → Option ρ} (R : RC s q h.1) (ht : t < 8) : rdI h (s + 4) 8 (Int32.ofNat t) F = F (q (24 + t)) := by rw [rdI_i8 ht, (R.1 t ht).2.2.2.1]
theorem rdS5 {ρ : Type} {s t : Nat} {q : Nat → Int32} {h : am_H} {F : Int32 → Option ρ} (R : RC s q h.1) (ht : t < 8) : rdI h (s + 5) 8 (Int32.ofNat t) F = F (q (32 + t)) := by rw [rdI_i8 ht, (R.1 t ht).2.2.2.2.1]
theorem rdS6 {ρ : Type} {s t : Nat} {q : Nat → Int32} {h : am_H} {F : Int32 → Option ρ} (R : RC s q h.1) (ht : t < 8) : rdI h (s + 6) 8 (Int32.ofNat t) F = F (q (40 + t)) := by rw [rdI_i8 ht, (R.1 t ht).2.2.2.2.2.1]
theorem rdS7 {ρ : Type} {s t : Nat} {q : Nat → Int32} {h : am_H} {F : Int32 → Option ρ} (R : RC s q h.1) (ht : t < 8) : rdI h (s + 7) 8 (Int32.ofNat t) F = F (q (48 + t)) := by rw [rdI_i8 ht, (R.1 t ht).2.2.2.2.2.2]
/-- who is there; who is in a room; who could be of its couple -/
def qT (q : Nat → Int32) (t : Nat) : Bool := decide (0 < q t)
def qIn (q : Nat → Int32) (x : Int32) (t : Nat) : Bool := decide (0 < q t) && decide (q (8 + t) = x)
def qE (q : Nat → Int32) (x : Int32) (t : Nat) : Bool := decide (0 < q t) && decide (q (8 + t) = x) && decide (q (32 + t) = 0)
def zBulk (q : Nat → Int32) (s : Int32) : Int32 := fo (fun t a => if tb s t = true then a + q t else a) 8 0 0
def zLeft (hold : Nat → Int32) (q : Nat → Int32) (r : Nat) : Int32 := hold r - zBulk q (zS (qIn q (Int32.ofNat r)))
def zFree (q : Nat → Int32) : Int32 := fi (fun t => decide (q t = 0)) 8 0
def zBk (q : Nat → Int32) (x b : Int32) : Int32 := (fo (fun t (p : Int32 × Int32) => if (!decide (Int32.ofNat t = b) && qE q x t && decide (p.2 < q t)) = true then (Int32.ofNat t, q t) else p) 8 0 ((-1), 0)).1
def zCp (q : Nat → Int32) (x : Int32) : Int32 := if zBk q x (-1) = -1 then -1 else if zBk q x (zBk q x (-1)) = -1 then -1 else zBk q x (-1) * 8 + zBk q x (zBk q x (-1))
def mk (q : Nat → Int32) (t : Nat) : Nat := (q (16 + t)).toNatClampNeg
def zSh (q : Nat → Int32) (t o : Nat) : Int32 := 6 - Int32.ofNat (bc (mk q t ^^^ mk q o))
def WB (q : Nat → Int32) : Prop := ∀ t, t < 8 → q t = 0 ∨ 0 < q t
def WM (q : Nat → Int32) : Prop := ∀ t, t < 8 → mk q t < 64 ∧ q (16 + t) = Int32.ofNat (mk q t)
def hs (q : Nat → Int32) (x : Int32) : Bool := !decide (x < 0) && decide (x < 8) && decide (0 < q x.toNatClampNeg)
theorem i8_cases (x : Int32) : x < 0 ∨ (∃ t, t < 8 ∧ x = Int32.ofNat t) ∨ (¬ x < 0 ∧ ¬ x < 8) := by
  by_cases h1 : x < 0
  · exact Or.inl h1
  · by_cases h2 : x < 8
    · right; left
      rw [Int32.lt_iff_toInt_lt] at h1 h2
      have h3 : (0 : Int32).toInt = 0 := rfl
      have h4 : (8 : Int32).toInt = 8 := rfl
      refine ⟨x.toInt.toNat, by omega, ?_⟩
      apply Int32.toInt_inj.mp
      rw [on_toInt (by omega)]
      omega
    · exact Or.inr (Or.inr ⟨h1, h2⟩)
theorem hs_on {q : Nat → Int32} {t : Nat} (ht : t < 8) : hs q (Int32.ofNat t) = decide (0 < q t) := by
  unfold hs
  rw [i8_nat t ht]
  simp [i8_ge t (by omega), i8_lt t ht]
theorem hs_ex {q : Nat → Int32} {x : Int32} (h : hs q x = true) : ∃ t, t < 8 ∧ x = Int32.ofNat t ∧ 0 < q t := by
  rcases i8_cases x with h1 | ⟨t, ht, rfl⟩ | ⟨h1, h2⟩
  · simp [hs, h1] at h
  · rw [hs_on ht] at h
    exact ⟨t, ht, rfl, by simpa using h⟩
  · simp [hs, h2] at h
theorem pos_ne {x : Int32} (h : 0 < x) : ¬ x = 0 := by
  intro e
  rw [e] at h
  exact absurd h (by decide)
section RCQ
variable {s : Nat} {q : Nat → Int32} {h : am_H}
theorem X7_has (R : RC s q h.1) (x : Int32) : f_X7_has s x h = some (if hs q x = true then 1 else 0) := by
  unfold f_X7_has
  rcases i8_cases x with h1 | ⟨t, ht, rfl⟩ | ⟨h1, h2⟩
  · rw [if_pos h1]; simp [hs, h1]
  · rw [if_neg (i8_ge t (by omega)), if_pos (i8_lt t ht), rdS1 R ht, hs_on ht]
    by_cases hc : 0 < q t <;> simp [hc]
  · rw [if_neg h1, if_neg h2]; simp [hs, h2]
theorem X7_hasBoth (R : RC s q h.1) (x y : Int32) : f_X7_hasBoth s x y h = some (if (hs q x && hs q y) = true then 1 else 0) := by
  unfold f_X7_hasBoth
  rw [X7_has R, cal_some, X7_has R, cal_some]
  cases hs q x <;> cases hs q y <;> rfl
theorem l_bits (R : RC s q h.1) : ∀ m n t a, t + m = 8 → lp_X7_bits_4 s h (n + m + 1) a (Int32.ofNat t) = some (fo (fun t a => if qT q t = true then a ||| sB t else a) m t a) := by
  intro m
  induction m with
  | zero => intro n t a ht; obtain rfl : t = 8 := by omega
            rw [lp_X7_bits_4, if_neg (by decide)]; rfl
  | succ m ih =>
    intro n t a ht
    have h8 : t < 8 := by omega
    have e : ∀ a, lp_X7_bits_4 s h (n + (m + 1)) a (Int32.ofNat (t + 1)) = _ := fun a => ih n (t + 1) a (by omega)
    rw [lp_X7_bits_4, if_pos (i8_lt t h8), rdS1 R h8, i8_succ t h8, e, e, fo]
    by_cases hc : 0 < q t <;> simp [hc, qT, sB]
theorem X7_bits (R : RC s q h.1) : f_X7_bits s h = some (zS (qT q)) := l_bits R 8 3991 0 0 rfl
theorem X7_count (R : RC s q h.1) : f_X7_count s h = some (Int32.ofNat (zC (qT q))) := by
  unfold f_X7_count
  rw [X7_bits R, cal_some, J6_zS, cal_some]
theorem l_bitsIn (R : RC s q h.1) (x : Int32) : ∀ m n t a, t + m = 8 → lp_X7_bitsIn_4 s x h (n + m + 1) a (Int32.ofNat t) = some (fo (fun t a => if qIn q x t = true then a ||| sB t else a) m t a) := by
  intro m
  induction m with
  | zero => intro n t a ht; obtain rfl : t = 8 := by omega
            rw [lp_X7_bitsIn_4, if_neg (by decide)]; rfl
  | succ m ih =>
    intro n t a ht
    have h8 : t < 8 := by omega
    have e : ∀ a, lp_X7_bitsIn_4 s x h (n + (m + 1)) a (Int32.ofNat (t + 1)) = _ := fun a => ih n (t + 1) a (by omega)
    rw [lp_X7_bitsIn_4, if_pos (i8_lt t h8), rdS1 R h8, rdS2 R h8, i8_succ t h8, e, e, fo]
    by_cases hc : 0 < q t
    · rw [if_neg (pos_ne hc)]
      by_cases hd : q (8 + t) = x <;> simp [hc, hd, qIn, sB]
    · simp [hc, qIn]
theorem X7_bitsIn (R : RC s q h.1) (x : Int32) : f_X7_bitsIn s x h = some (zS (qIn q x)) := l_bitsIn R x 8 3991 0 0 rfl
theorem l_bulkOf (R : RC s q h.1) (x : Int32) : ∀ m n t a, t + m = 8 → lp_X7_bulkOf_4 s x h (n + m + 1) a (Int32.ofNat t) = some (fo (fun t a => if tb x t = true then a + q t else a) m t a) := by
  intro m
  induction m with
  | zero => intro n t a ht; obtain rfl : t = 8 := by omega
            rw [lp_X7_bulkOf_4, if_neg (by decide)]; rfl
  | succ m ih =>
    intro n t a ht
    have h8 : t < 8 := by omega
    have e : ∀ a, lp_X7_bulkOf_4 s x h (n + (m + 1)) a (Int32.ofNat (t + 1)) = _ := fun a => ih n (t + 1) a (by omega)
    rw [lp_X7_bulkOf_4, if_pos (i8_lt t h8), rdS1 R h8, i8_succ t h8, e, e, fo]
    by_cases hc : tb x t = true
    · rw [if_neg (fun z => by rw [tb_0.mp z] at hc; cases hc)]; simp [hc]
    · rw [if_pos (tb_0.mpr (by simpa using hc))]; simp [hc]
theorem X7_bulkOf (R : RC s q h.1) (x : Int32) : f_X7_bulkOf s x h = some (zBulk q x) := l_bulkOf R x 8 3991 0 0 rfl
theorem l_free (R : RC s q h.1) : ∀ m n t, t + m = 8 → lp_X7_firstFree_2 s h (n + m + 1) (Int32.ofNat t) = some (fi (fun t => decide (q t = 0)) m t) := by
  intro m
  induction m with
  | zero => intro n t ht; obtain rfl : t = 8 := by omega
            rw [lp_X7_firstFree_2, if_neg (by decide)]; rfl
  | succ m ih =>
    intro n t ht
    have h8 : t < 8 := by omega
    have e : lp_X7_firstFree_2 s h (n + (m + 1)) (Int32.ofNat (t + 1)) = _ := ih n (t + 1) (by omega)
    rw [lp_X7_firstFree_2, if_pos (i8_lt t h8), rdS1 R h8, i8_succ t h8, e, fi]
    by_cases hc : q t = 0 <;> simp [hc]
theorem X7_firstFree (R : RC s q h.1) : f_X7_firstFree s h = some (zFree q) := l_free R 8 3991 0 rfl
theorem l_allMarks (R : RC s q h.1) : ∀ m n t a, t + m = 8 → lp_X7_allMarks_4 s h (n + m + 1) a (Int32.ofNat t) = some (fo (fun t a => a ||| q (16 + t)) m t a) := by
  intro m
  induction m with
  | zero => intro n t a ht; obtain rfl : t = 8 := by omega
            rw [lp_X7_allMarks_4, if_neg (by decide)]; rfl
  | succ m ih =>
    intro n t a ht
    have h8 : t < 8 := by omega
    have e : ∀ a, lp_X7_allMarks_4 s h (n + (m + 1)) a (Int32.ofNat (t + 1)) = _ := fun a => ih n (t + 1) a (by omega)
    rw [lp_X7_allMarks_4, if_pos (i8_lt t h8), rdS3 R h8, i8_succ t h8, e, fo]
def zMarks (q : Nat → Int32) : Int32 := fo (fun t a => a ||| q (16 + t)) 8 0 0
theorem X7_allMarks (R : RC s q h.1) : f_X7_allMarks s h = some (zMarks q) := l_allMarks R 8 3991 0 0 rfl
theorem X7_shared (R : RC s q h.1) (W : WM q) {t o : Nat} (ht : t < 8) (ho : o < 8) : f_X7_shared s (Int32.ofNat t) (Int32.ofNat o) h = some (if (qT q t && qT q o) = true then zSh q t o else 0) := by
  unfold f_X7_shared
  rw [X7_hasBoth R, cal_some, hs_on ht, hs_on ho]
  by_cases hc : (qT q t && qT q o) = true
  · have hc' : (decide (0 < q t) && decide (0 < q o)) = true := hc
    rw [if_pos hc', if_neg (by decide), rdS3 R ht, rdS3 R ho, (W t ht).2, (W o ho).2, xor_on, J6_on, cal_some, if_pos hc]
    · rfl
    · exact Nat.xor_lt_two_pow (n := 8) (by have := (W t ht).1; omega) (by have := (W o ho).1; omega)
  · have hc' : ¬ (decide (0 < q t) && decide (0 < q o)) = true := hc
    rw [if_neg hc', if_pos rfl, if_neg hc]
theorem l_bulkiest (R : RC s q h.1) (W : WB q) {x : Int32} (hx : ¬ x = -1) (b : Int32) : ∀ m n t (p : Int32 × Int32), t + m = 8 → lp_X7_bulkiestIn_8 s x b h (n + m + 1) p.1 p.2 (Int32.ofNat t) = some (fo (fun t (p : Int32 × Int32) => if (!decide (Int32.ofNat t = b) && qE q x t && decide (p.2 < q t)) = true then (Int32.ofNat t, q t) else p) m t p).1 := by
  intro m
  induction m with
  | zero => intro n t a ht; obtain rfl : t = 8 := by omega
            rw [lp_X7_bulkiestIn_8, if_neg (by decide)]; rfl
  | succ m ih =>
    intro n t p ht
    have h8 : t < 8 := by omega
    have e : ∀ p : Int32 × Int32, lp_X7_bulkiestIn_8 s x b h (n + (m + 1)) p.1 p.2 (Int32.ofNat (t + 1)) = _ := fun p => ih n (t + 1) p (by omega)
    have e2 := e (Int32.ofNat t, q t)
    simp only at e2
    rw [lp_X7_bulkiestIn_8, if_pos (i8_lt t h8), rdS1 R h8, rdS2 R h8, rdS5 R h8, rdS1 R h8, i8_succ t h8, e, e2, fo]
    rcases W t h8 with hz | hz
    · have hx' : ¬ (-1 : Int32) = x := fun z => hx z.symm
      rw [if_pos hz, if_neg hx']
      simp [qE, hz]
    · rw [if_neg (pos_ne hz)]
      by_cases h1 : Int32.ofNat t = b
      · simp [h1]
      · by_cases h2 : q (8 + t) = x
        · by_cases h3 : q (32 + t) = 0
          · by_cases h4 : p.2 < q t <;> simp [h1, h2, h3, h4, qE, hz]
          · simp [h1, h2, h3, qE, hz]
        · simp [h1, h2, qE, hz]
theorem X7_bulkiestIn (R : RC s q h.1) (W : WB q) {x : Int32} (hx : ¬ x = -1) (b : Int32) : f_X7_bulkiestIn s x b h = some (zBk q x b) := l_bulkiest R W hx b 8 3991 0 ((-1), 0) rfl
theorem X7_coupleIn (R : RC s q h.1) (W : WB q) {x : Int32} (hx : ¬ x = -1) : f_X7_coupleIn s x h = some (zCp q x) := by
  unfold f_X7_coupleIn zCp
  rw [X7_bulkiestIn R W hx, cal_some, X7_bulkiestIn R W hx, cal_some]
  split
  · rfl
  · split <;> rfl
end RCQ
/-- what the class knows of the house's rooms -/
def PC (h : am_H) (nr : Nat) (hold : Nat → Int32) : Prop := h.1 4 6 = Int32.ofNat nr ∧ nr ≤ 4 ∧ ∀ r, r < nr → h.1 5 r = hold r
theorem X4_hasRoom {h : am_H} {nr : Nat} {hold : Nat → Int32} (P : PC h nr hold) {r : Nat} (hr : r < nr) : f_X4_hasRoom_4 (Int32.ofNat r) h = some 1 := by
  unfold f_X4_hasRoom_4
  have h4 := P.2.1
  rw [if_neg (i8_ge r (by omega)), bnd_eq, P.1, if_pos ((on_lt (by omega) (by omega)).mpr hr), if_pos (by rw [show (4 : Int32) = Int32.ofNat 4 from rfl, on_lt (by omega) (by omega)]; omega)]
theorem X7_leftIn {s : Nat} {q : Nat → Int32} {h : am_H} {nr : Nat} {hold : Nat → Int32} (P : PC h nr hold) (R : RC s q h.1) {r : Nat} (hr : r < nr) : f_X7_leftIn s (Int32.ofNat r) h = some (zLeft hold q r) := by
  have h4 := P.2.1
  unfold f_X7_leftIn
  rw [X4_hasRoom P hr, cal_some, if_neg (by decide), rdI_n (by omega) (by decide), P.2.2 r hr, X7_bitsIn R, cal_some, X7_bulkOf R, cal_some]
  rfl
