/-! A year: who listens, who pines, who grows, on both sides -/
/-- what a State's doings leave alone -/
def CK (s : Nat) (f f' : Nat → Nat → Int32) : Prop := ∀ a, ¬ (s ≤ a ∧ a < s + 8) → a ≠ 35 → a ≠ 13 → f' a = f a
theorem CK.refl {s : Nat} {f : Nat → Nat → Int32} : CK s f f := fun _ _ _ _ => rfl
theorem CK.trans {s : Nat} {f f' f'' : Nat → Nat → Int32} (h : CK s f f') (h' : CK s f' f'') : CK s f f'' := fun a h1 h2 h3 => (h' a h1 h2 h3).trans (h a h1 h2 h3)
theorem CK.au {s a k : Nat} {v : Int32} {f : Nat → Nat → Int32} (h : (s ≤ a ∧ a < s + 8) ∨ a = 35 ∨ a = 13) : CK s f (am_u2 f a k v) := fun b h1 h2 h3 => u2_ne (fun e => by
  subst e
  rcases h with h | h | h
  · exact h1 h
  · exact h2 h
  · exact h3 h)
theorem CK.rm {s t : Nat} {f : Nat → Nat → Int32} : CK s f (rmI s t f) := fun a h1 _ _ => rmI_ne (fun z => h1 ⟨by omega, z.2⟩)
theorem RC_frame {s : Nat} {q : Nat → Int32} {f f' : Nat → Nat → Int32} (h : ∀ a, s ≤ a → a < s + 8 → f' a = f a) (R : RC s q f) : RC s q f' := by
  refine ⟨fun t ht => ?_, ?_, ?_, ?_⟩
  · rw [h _ (by omega) (by omega), h (s + 2) (by omega) (by omega), h (s + 3) (by omega) (by omega), h (s + 4) (by omega) (by omega), h (s + 5) (by omega) (by omega), h (s + 6) (by omega) (by omega), h (s + 7) (by omega) (by omega)]
    exact R.1 t ht
  · rw [h _ (by omega) (by omega)]; exact R.2.1
  · rw [h _ (by omega) (by omega)]; exact R.2.2.1
  · rw [h _ (by omega) (by omega)]; exact R.2.2.2
section RW
variable {s t : Nat} {q : Nat → Int32} {f : Nat → Nat → Int32} {v : Int32}
theorem RC_w1 (R : RC s q f) (ht : t < 8) (h : q t = 0 ↔ v = 0) : RC s (st q t v) (am_u2 f (s + 1) t v) := by
  refine ⟨fun k hk => ?_, ?_, ?_, ?_⟩
  · obtain ⟨r1, r2, r3, r4, r5, r6, r7⟩ := R.1 k hk
    by_cases e : k = t
    · subst e
      simp (disch := omega) only [au_same, au_ne, st_same, st_ne]
      refine ⟨trivial, ?_, r3, r4, r5, r6, r7⟩
      rw [r2]
      by_cases hv : v = 0
      · rw [if_pos hv, if_pos (h.mpr hv)]
      · rw [if_neg hv, if_neg (fun z => hv (h.mp z))]
    · simp (disch := omega) only [au_nk, st_ne]
      exact R.1 k hk
  · simp (disch := omega) only [au_ne, st_ne]; exact R.2.1
  · simp (disch := omega) only [au_ne, st_ne]; exact R.2.2.1
  · simp (disch := omega) only [au_ne, st_ne]; exact R.2.2.2
theorem RC_w2 (R : RC s q f) (ht : t < 8) (h : ¬ q t = 0) : RC s (st q (8 + t) v) (am_u2 f (s + 2) t v) := by
  refine ⟨fun k hk => ?_, ?_, ?_, ?_⟩
  · obtain ⟨r1, r2, r3, r4, r5, r6, r7⟩ := R.1 k hk
    by_cases e : k = t
    · subst e
      simp (disch := omega) only [au_same, au_ne, st_same, st_ne]
      exact ⟨r1, by rw [if_neg h], r3, r4, r5, r6, r7⟩
    · simp (disch := omega) only [au_nk, st_ne]
      exact R.1 k hk
  · simp (disch := omega) only [au_ne, st_ne]; exact R.2.1
  · simp (disch := omega) only [au_ne, st_ne]; exact R.2.2.1
  · simp (disch := omega) only [au_ne, st_ne]; exact R.2.2.2
theorem RC_w3 (R : RC s q f) (ht : t < 8) : RC s (st q (16 + t) v) (am_u2 f (s + 3) t v) := by
  refine ⟨fun k hk => ?_, ?_, ?_, ?_⟩
  · obtain ⟨r1, r2, r3, r4, r5, r6, r7⟩ := R.1 k hk
    by_cases e : k = t
    · subst e
      simp (disch := omega) only [au_same, au_ne, st_same, st_ne]
      exact ⟨r1, r2, trivial, r4, r5, r6, r7⟩
    · simp (disch := omega) only [au_nk, st_ne]
      exact R.1 k hk
  · simp (disch := omega) only [au_ne, st_ne]; exact R.2.1
  · simp (disch := omega) only [au_ne, st_ne]; exact R.2.2.1
  · simp (disch := omega) only [au_ne, st_ne]; exact R.2.2.2
theorem RC_w4 (R : RC s q f) (ht : t < 8) : RC s (st q (24 + t) v) (am_u2 f (s + 4) t v) := by
  refine ⟨fun k hk => ?_, ?_, ?_, ?_⟩
  · obtain ⟨r1, r2, r3, r4, r5, r6, r7⟩ := R.1 k hk
    by_cases e : k = t
    · subst e
      simp (disch := omega) only [au_same, au_ne, st_same, st_ne]
      exact ⟨r1, r2, r3, trivial, r5, r6, r7⟩
    · simp (disch := omega) only [au_nk, st_ne]
      exact R.1 k hk
  · simp (disch := omega) only [au_ne, st_ne]; exact R.2.1
  · simp (disch := omega) only [au_ne, st_ne]; exact R.2.2.1
  · simp (disch := omega) only [au_ne, st_ne]; exact R.2.2.2
theorem RC_w5 (R : RC s q f) (ht : t < 8) : RC s (st q (32 + t) v) (am_u2 f (s + 5) t v) := by
  refine ⟨fun k hk => ?_, ?_, ?_, ?_⟩
  · obtain ⟨r1, r2, r3, r4, r5, r6, r7⟩ := R.1 k hk
    by_cases e : k = t
    · subst e
      simp (disch := omega) only [au_same, au_ne, st_same, st_ne]
      exact ⟨r1, r2, r3, r4, trivial, r6, r7⟩
    · simp (disch := omega) only [au_nk, st_ne]
      exact R.1 k hk
  · simp (disch := omega) only [au_ne, st_ne]; exact R.2.1
  · simp (disch := omega) only [au_ne, st_ne]; exact R.2.2.1
  · simp (disch := omega) only [au_ne, st_ne]; exact R.2.2.2
theorem RC_w6 (R : RC s q f) (ht : t < 8) : RC s (st q (40 + t) v) (am_u2 f (s + 6) t v) := by
  refine ⟨fun k hk => ?_, ?_, ?_, ?_⟩
  · obtain ⟨r1, r2, r3, r4, r5, r6, r7⟩ := R.1 k hk
    by_cases e : k = t
    · subst e
      simp (disch := omega) only [au_same, au_ne, st_same, st_ne]
      exact ⟨r1, r2, r3, r4, r5, trivial, r7⟩
    · simp (disch := omega) only [au_nk, st_ne]
      exact R.1 k hk
  · simp (disch := omega) only [au_ne, st_ne]; exact R.2.1
  · simp (disch := omega) only [au_ne, st_ne]; exact R.2.2.1
  · simp (disch := omega) only [au_ne, st_ne]; exact R.2.2.2
theorem RC_w7 (R : RC s q f) (ht : t < 8) : RC s (st q (48 + t) v) (am_u2 f (s + 7) t v) := by
  refine ⟨fun k hk => ?_, ?_, ?_, ?_⟩
  · obtain ⟨r1, r2, r3, r4, r5, r6, r7⟩ := R.1 k hk
    by_cases e : k = t
    · subst e
      simp (disch := omega) only [au_same, au_ne, st_same, st_ne]
      exact ⟨r1, r2, r3, r4, r5, r6, trivial⟩
    · simp (disch := omega) only [au_nk, st_ne]
      exact R.1 k hk
  · simp (disch := omega) only [au_ne, st_ne]; exact R.2.1
  · simp (disch := omega) only [au_ne, st_ne]; exact R.2.2.1
  · simp (disch := omega) only [au_ne, st_ne]; exact R.2.2.2
/-- the State's three numbers -/
theorem RC_n (R : RC s q f) {j : Nat} (hj : j < 3) : RC s (st q (56 + j) v) (am_u2 f s (8 + j) v) := by
  refine ⟨fun k hk => ?_, ?_, ?_, ?_⟩
  · simp (disch := omega) only [au_ne, st_ne]
    exact R.1 k hk
  · by_cases e : j = 0
    · subst e; rw [st_same, au_same]
    · rw [st_ne (by omega), au_nk (by omega)]; exact R.2.1
  · by_cases e : j = 1
    · subst e; rw [st_same, au_same]
    · rw [st_ne (by omega), au_nk (by omega)]; exact R.2.2.1
  · by_cases e : j = 2
    · subst e; rw [st_same, au_same]
    · rw [st_ne (by omega), au_nk (by omega)]; exact R.2.2.2
end RW
/-- who listens -/
def zLs (lim : Int32) (t : Nat) (p : (Nat → Int32) × Int32) : (Nat → Int32) × Int32 :=
  if p.1 t = 0 then p else if 0 < p.1 (24 + t) then (st (st p.1 (24 + t) (p.1 (24 + t) - 1)) (32 + t) 0, p.2)
  else if p.1 (32 + t) + 1 < lim then (st p.1 (32 + t) (p.1 (32 + t) + 1), p.2) else (zLose t (st p.1 (32 + t) (p.1 (32 + t) + 1)), p.2 ||| sB t)
def zListen (lim : Int32) (q : Nat → Int32) : (Nat → Int32) × Int32 := fo (zLs lim) 8 0 (q, 0)
theorem c_listen {s : Nat} (hs : s < 28 ∨ 36 ≤ s) (lim : Int32) {g : (Nat → Nat → Int64) × (Nat → Nat → Option Nat)} : ∀ m n t (p : (Nat → Int32) × Int32) (f : Nat → Nat → Int32), t + m = 8 → RC s p.1 f → f 35 3 = p.2 → ∃ f', lp_X10_listen_2 s lim (n + m + 1) (Int32.ofNat t) (f, g) = some (f', g) ∧ RC s (fo (zLs lim) m t p).1 f' ∧ f' 35 3 = (fo (zLs lim) m t p).2 ∧ f' 35 2 = f 35 2 ∧ CK s f f' := by
  intro m
  induction m with
  | zero =>
    intro n t p f ht R h3
    obtain rfl : t = 8 := by omega
    rw [lp_X10_listen_2, if_neg (by decide)]
    exact ⟨f, rfl, R, h3, rfl, CK.refl⟩
  | succ m ih =>
    intro n t p f ht R h3
    have h8 : t < 8 := by omega
    have e : ∀ p f, RC s p.1 f → f 35 3 = p.2 → ∃ f', lp_X10_listen_2 s lim (n + (m + 1)) (Int32.ofNat (t + 1)) (f, g) = some (f', g) ∧ RC s (fo (zLs lim) m (t + 1) p).1 f' ∧ f' 35 3 = (fo (zLs lim) m (t + 1) p).2 ∧ f' 35 2 = f 35 2 ∧ CK s f f' := fun p f => ih n (t + 1) p f (by omega)
    rw [lp_X10_listen_2, if_pos (i8_lt t h8), rdS1 R h8, rdS4 R h8, rdS4 R h8, rdS5 R h8, i8_succ t h8]
    have e0 : fo (zLs lim) (m + 1) t p = fo (zLs lim) m (t + 1) (zLs lim t p) := rfl
    rw [e0]
    unfold zLs
    by_cases c1 : p.1 t = 0
    · rw [if_pos c1, if_pos c1]
      exact e p f R h3
    · rw [if_neg c1, if_neg c1]
      by_cases c2 : 0 < p.1 (24 + t)
      · rw [if_pos c2, if_pos c2, wrI_i8 h8, wrI_i8 h8]
        have R2 := RC_w5 (v := 0) (RC_w4 (v := p.1 (24 + t) - 1) R h8) h8
        obtain ⟨f', g1, g2, g3, g4, g5⟩ := e (st (st p.1 (24 + t) (p.1 (24 + t) - 1)) (32 + t) 0, p.2) _ R2 (by
          rw [au_ne (by omega), au_ne (by omega)]; exact h3)
        refine ⟨f', g1, g2, g3, ?_, ?_⟩
        · rw [g4, au_ne (by omega), au_ne (by omega)]
        · exact CK.trans (CK.trans (CK.au (Or.inl ⟨by omega, by omega⟩)) (CK.au (Or.inl ⟨by omega, by omega⟩))) g5
      · rw [if_neg c2, if_neg c2, wrI_i8 h8]
        have R2 := RC_w5 (v := p.1 (32 + t) + 1) R h8
        rw [rdI_i8 h8]
        have hv : am_u2 f (s + 5) t (p.1 (32 + t) + 1) (s + 5) t = p.1 (32 + t) + 1 := au_same
        simp only [hv]
        by_cases c3 : p.1 (32 + t) + 1 < lim
        · rw [if_pos c3, if_pos c3]
          obtain ⟨f', g1, g2, g3, g4, g5⟩ := e (st p.1 (32 + t) (p.1 (32 + t) + 1), p.2) _ R2 (by rw [au_ne (by omega)]; exact h3)
          refine ⟨f', g1, g2, g3, ?_, ?_⟩
          · rw [g4, au_ne (by omega)]
          · exact CK.trans (CK.au (Or.inl ⟨by omega, by omega⟩)) g5
        · rw [if_neg c3, if_neg c3, fX7_remove h8, cal_some, bnd_eq, ptI_eq]
          have R3 := RC_lose R2 h8
          have h35 : rmI s t (am_u2 f (s + 5) t (p.1 (32 + t) + 1)) 35 = f 35 := by
            rw [rmI_ne (by omega), u2_ne (by omega)]
          have R4 : RC s (zLose t (st p.1 (32 + t) (p.1 (32 + t) + 1))) (am_u2 (rmI s t (am_u2 f (s + 5) t (p.1 (32 + t) + 1))) 35 3 (rmI s t (am_u2 f (s + 5) t (p.1 (32 + t) + 1)) 35 3 ||| (1 : Int32) <<< (Int32.ofNat t &&& 31))) := RC_frame (fun a h1 h2 => u2_ne (by omega)) R3
          obtain ⟨f', g1, g2, g3, g4, g5⟩ := e (zLose t (st p.1 (32 + t) (p.1 (32 + t) + 1)), p.2 ||| sB t) _ R4 (by rw [au_same, h35, h3]; rfl)
          refine ⟨f', g1, g2, g3, ?_, ?_⟩
          · rw [g4, au_nk (by omega), h35]
          · exact CK.trans (CK.trans (CK.trans (CK.au (Or.inl ⟨by omega, by omega⟩)) CK.rm) (CK.au (Or.inr (Or.inl rfl)))) g5
theorem X10_listen {s : Nat} (hs : s < 28 ∨ 36 ≤ s) (lim : Int32) {f : Nat → Nat → Int32} {g : (Nat → Nat → Int64) × (Nat → Nat → Option Nat)} {q : Nat → Int32} (R : RC s q f) (h3 : f 35 3 = 0) : ∃ f', f_X10_listen s lim (f, g) = some (f', g) ∧ RC s (zListen lim q).1 f' ∧ f' 35 3 = (zListen lim q).2 ∧ f' 35 2 = f 35 2 ∧ CK s f f' := c_listen hs lim 8 3991 0 (q, 0) f rfl R h3
/-- the limit that the model has -/
def LM (f : Nat → Nat → Int32) (b : Nat) (lim : Int32) : Prop := f 413 32 = Int32.ofNat b ∧ b < 2 ∧ lim = (if f 413 42 < 0 then f 419 b else f 413 42)
theorem X12_listen {b t : Nat} {lim : Int32} {f : Nat → Nat → Int32} {g : (Nat → Nat → Int64) × (Nat → Nat → Option Nat)} {q : Nat → Int32} (L : LM f b lim) (ht : t < 8) (h0 : ¬ q t = 0) (x : Int32) : f_X12_listen (Int32.ofNat t) (up f 437 q, g) = some (up f 437 (zLs lim t (q, x)).1, g) := by
  obtain ⟨l1, l2, l3⟩ := L
  have e13 : ∀ q', up f 437 q' 413 = f 413 := fun q' => up_ne (by decide)
  have e19 : ∀ q', up f 437 q' 419 = f 419 := fun q' => up_ne (by decide)
  unfold f_X12_listen
  rw [rdA24 ht, rdA24 ht, rdA32 ht]
  simp only [wrA24 ht, wrA32 ht, up_same, up_hu, bnd_eq, rdA32 ht, e13, l1, st_same]
  unfold zLs
  simp only [if_neg h0]
  by_cases c2 : 0 < q (24 + t)
  · rw [if_pos c2, if_pos c2]
  · rw [if_neg c2, if_neg c2, rdI_n l2 (by decide)]
    simp only [e19]
    by_cases c4 : f 413 42 < 0
    · rw [if_pos c4] at l3 ⊢
      rw [← l3]
      by_cases c3 : q (32 + t) + 1 < lim
      · rw [if_pos c3, if_pos c3]
      · rw [if_neg c3, if_neg c3, X12_loseOne ht, cal_some]
    · rw [if_neg c4] at l3 ⊢
      rw [← l3]
      by_cases c3 : q (32 + t) + 1 < lim
      · rw [if_pos c3, if_pos c3]
      · rw [if_neg c3, if_neg c3, X12_loseOne ht, cal_some]
