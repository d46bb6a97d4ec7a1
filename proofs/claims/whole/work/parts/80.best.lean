/-! Best; and that the house stays the house -/
section YD
variable {f : Nat → Nat → Int32} {g g' : (Nat → Nat → Int64) × (Nat → Nat → Option Nat)} {b nr : Nat} {hold : Nat → Int32} {E : EV} {lim : Int32}
/-- the house depends on some cells alone -/
theorem HI_frame {f f' : Nat → Nat → Int32} (hc : ∀ a, a = 4 ∨ a = 5 ∨ a = 10 ∨ a = 11 ∨ a = 12 ∨ (27 ≤ a ∧ a < 35) ∨ a = 416 ∨ a = 419 ∨ a = 422 ∨ a = 423 ∨ a = 428 ∨ a = 429 ∨ a = 432 ∨ a = 433 ∨ a = 437 → f' a = f a) (h32 : f' 413 32 = f 413 32) (h42 : f' 413 42 = f 413 42) (h : HI f g b nr hold E lim) : HI f' g' b nr hold E lim := by
  obtain ⟨R, W, L, H, P, M, e, em, h8, l1, l9, h19, t42⟩ := h
  have e437 := hc 437 (by omega)
  refine ⟨?_, by rw [e437]; exact W, by rw [e437]; exact L, H, ?_, ?_, ?_, ?_, by rw [hc 4 (by omega)]; exact h8, l1, l9, by rw [hc 419 (by omega)]; exact h19, by rw [h42]; exact t42⟩
  · rw [e437]
    exact RC_frame (fun a h1 h2 => hc a (by omega)) R
  · exact PC_frame (hc 4 (by omega)) (hc 5 (by omega)) P
  · unfold MP at M ⊢
    simp only at M ⊢
    rw [h32, hc 416 (by omega), hc 423 (by omega)]
    exact M
  · exact EC_frame (hc 10 (by omega)) (hc 11 (by omega)) (hc 12 (by omega)) e
  · exact fun f'' g i j a1 a2 a3 a4 a5 => em f'' g i j (a1.trans (hc 422 (by omega))) (a2.trans (hc 428 (by omega))) (a3.trans (hc 429 (by omega))) (a4.trans (hc 432 (by omega))) (a5.trans (hc 433 (by omega)))
theorem HI_ck {f f' : Nat → Nat → Int32} (K : CK 36 f f') (h : HI f g b nr hold E lim) : HI f' g' b nr hold E lim := HI_frame (fun a ha => K a (by omega) (by omega) (by omega)) (by rw [ck_m K (by decide)]) (by rw [ck_m K (by decide)]) h
theorem HI_ma {f f' : Nat → Nat → Int32} (K : MA f f') (h : HI f g b nr hold E lim) : HI f' g' b nr hold E lim := HI_frame (fun a ha => K.1 a (by omega) (by omega) (by omega)) (K.2 32 (by decide) (by decide)) (K.2 42 (by decide) (by decide)) h
def bsS (E : EV) (hold : Nat → Int32) (nr : Nat) (lim : Int32) (q : Nat → Int32) (t r : Nat) (p : Int32 × Int32) : Int32 × Int32 := if q (8 + t) = Int32.ofNat r ∨ ¬ zLeft hold q r < q t then (if p.2 < Int32.ofNat (zC (qT (yrs E hold nr lim 5 (st q (8 + t) (Int32.ofNat r))))) then (Int32.ofNat r, Int32.ofNat (zC (qT (yrs E hold nr lim 5 (st q (8 + t) (Int32.ofNat r)))))) else p) else p
theorem c_best {q : Nat → Int32} {t : Nat} (ht : t < 8) (t0 : 0 < q t) {x2 : Int32} {k : Int32 → Int32 → am_H → Option (Int32 × am_H)} : ∀ m n r (p : Int32 × Int32) (f : Nat → Nat → Int32), r + m = nr → f 437 = q → HI f g b nr hold E lim → ∃ f', lp_X11_best_30 (Int32.ofNat t) x2 k (n + m + 1) p.1 p.2 (Int32.ofNat r) (f, g) = k (fo (bsS E hold nr lim q t) m r p).1 (fo (bsS E hold nr lim q t) m r p).2 (f', g) ∧ CK 36 f f' := by
  intro m
  induction m with
  | zero =>
    intro n r p f hr hq h
    have P := h.2.2.2.2.1
    have h4 := P.2.1
    rw [lp_X11_best_30, bnd_eq, P.1, if_neg (by rw [on_lt (by omega) (by omega)]; omega)]
    exact ⟨f, rfl, CK.refl⟩
  | succ m ih =>
    intro n r p f hr hq h
    have P := h.2.2.2.2.1
    have R' : RC 27 (f 437) (f, g).1 := h.1
    rw [hq] at R'
    have h4 := P.2.1
    have hr' : r < nr := by omega
    have e0 : fo (bsS E hold nr lim q t) (m + 1) r p = fo (bsS E hold nr lim q t) m (r + 1) (bsS E hold nr lim q t r p) := rfl
    have go : (q (8 + t) = Int32.ofNat r ∨ ¬ zLeft hold q r < q t) → ∃ f', jn_X11_best_77 (lp_X11_best_30 (Int32.ofNat t) x2 k (n + (m + 1))) (Int32.ofNat t) x2 p.1 p.2 (Int32.ofNat r) (f, g) = k (fo (bsS E hold nr lim q t) (m + 1) r p).1 (fo (bsS E hold nr lim q t) (m + 1) r p).2 (f', g) ∧ CK 36 f f' := by
      intro hc
      obtain ⟨f1, a1, a2⟩ := X10_carried h ht (by rw [hq]; exact t0) hr' (by rw [hq]; exact hc)
      rw [hq] at a1
      unfold jn_X11_best_77
      rw [a1, cal2_some, on_succ, e0]
      have eb : bsS E hold nr lim q t r p = (if p.2 < Int32.ofNat (zC (qT (yrs E hold nr lim 5 (st q (8 + t) (Int32.ofNat r))))) then (Int32.ofNat r, Int32.ofNat (zC (qT (yrs E hold nr lim 5 (st q (8 + t) (Int32.ofNat r)))))) else p) := by
        unfold bsS
        rw [if_pos hc]
      rw [eb]
      have q1 : f1 437 = q := by rw [ck_m a2 (by decide), hq]
      by_cases c : p.2 < Int32.ofNat (zC (qT (yrs E hold nr lim 5 (st q (8 + t) (Int32.ofNat r)))))
      · rw [if_pos c, if_pos c]
        obtain ⟨f', b1, b2⟩ := ih n (r + 1) (Int32.ofNat r, Int32.ofNat (zC (qT (yrs E hold nr lim 5 (st q (8 + t) (Int32.ofNat r)))))) f1 (by omega) q1 (HI_ck a2 h)
        exact ⟨f', b1, a2.trans b2⟩
      · rw [if_neg c, if_neg c]
        obtain ⟨f', b1, b2⟩ := ih n (r + 1) p f1 (by omega) q1 (HI_ck a2 h)
        exact ⟨f', b1, a2.trans b2⟩
    rw [lp_X11_best_30, bnd_eq, P.1, if_pos ((on_lt (by omega) (by omega)).mpr hr'), rdS2 R' ht, if_neg (pos_ne t0)]
    by_cases c1 : Int32.ofNat r = q (8 + t)
    · rw [if_pos c1]
      exact go (Or.inl c1.symm)
    · rw [if_neg c1, X7_leftIn P R' hr', cal_some, rdS1 R' ht]
      by_cases c2 : zLeft hold q r < q t
      · rw [if_pos c2, on_succ, e0]
        have eb : bsS E hold nr lim q t r p = p := by
          unfold bsS
          rw [if_neg (fun z => z.elim (fun w => c1 w.symm) (fun w => w c2))]
        rw [eb]
        exact ih n (r + 1) p f (by omega) hq h
      · rw [if_neg c2]
        exact go (Or.inr c2)
theorem X12_canCarry {q : Nat → Int32} (M : MP (f, g) b nr hold) (hq : f 437 = q) {t r : Nat} (ht : t < 8) (t0 : 0 < q t) (hr : r < nr) : f_X12_canCarry (Int32.ofNat t) (Int32.ofNat r) (f, g) = some (if q (8 + t) = Int32.ofNat r ∨ zLeft hold q r < q t then 0 else 1) := by
  have one : ¬ (1 : Int32) = 0 := by decide
  unfold f_X12_canCarry
  rw [X12_isThere, cal_some, hs_on ht, X12_isRoom M hr, cal_some, rdA8 ht, X12_leftIn M hr, cal_some, rdA0 ht]
  simp only [hq]
  rw [if_pos (show decide (0 < q t) = true by simp [t0]), if_neg one, if_neg one]
  by_cases c1 : q (8 + t) = Int32.ofNat r
  · rw [if_pos c1, if_pos (Or.inl c1)]
  · rw [if_neg c1]
    by_cases c2 : zLeft hold q r < q t
    · rw [if_pos c2, if_pos (Or.inr c2)]
    · rw [if_neg c2, if_neg (fun z => z.elim c1 c2)]
theorem m_best {q : Nat → Int32} {t : Nat} (ht : t < 8) (t0 : 0 < q t) {x2 : Int32} {k : Int32 → Int32 → am_H → Option (Int32 × am_H)} : ∀ m n r (p : Int32 × Int32) (f : Nat → Nat → Int32), r + m = nr → f 437 = q → HI f g b nr hold E lim → ∃ f', lp_X12_best_27 (Int32.ofNat t) x2 k (n + m + 1) p.1 p.2 (Int32.ofNat r) (f, g) = k (fo (bsS E hold nr lim q t) m r p).1 (fo (bsS E hold nr lim q t) m r p).2 (f', g) ∧ MA f f' := by
  intro m
  induction m with
  | zero =>
    intro n r p f hr hq h
    have M := h.2.2.2.2.2.1
    have h4 := M.2.2.2.1
    rw [lp_X12_best_27, X12_chambers M, cal_some, if_neg (by rw [on_lt (by omega) (by omega)]; omega)]
    exact ⟨f, rfl, MA.refl⟩
  | succ m ih =>
    intro n r p f hr hq h
    have Li := h.lm
    obtain ⟨R, W, L, H, P, M, e, em, h8, l1, l9, h19, h42⟩ := id h
    have h4 := M.2.2.2.1
    have hr' : r < nr := by omega
    have e0 : fo (bsS E hold nr lim q t) (m + 1) r p = fo (bsS E hold nr lim q t) m (r + 1) (bsS E hold nr lim q t r p) := rfl
    have go : (q (8 + t) = Int32.ofNat r ∨ ¬ zLeft hold q r < q t) → ∃ f', jn_X12_best_63 (lp_X12_best_27 (Int32.ofNat t) x2 k (n + (m + 1))) (Int32.ofNat t) x2 p.1 p.2 (Int32.ofNat r) (f, g) = k (fo (bsS E hold nr lim q t) (m + 1) r p).1 (fo (bsS E hold nr lim q t) (m + 1) r p).2 (f', g) ∧ MA f f' := by
      intro hc
      obtain ⟨f1, a1, a2⟩ := X12_carried (g := g) (E := E) (k := lp_X12_best_27 (Int32.ofNat t) x2 k (n + (m + 1))) (x2 := x2) (x3 := p.1) (x4 := p.2) h4 H l9 M Li W L em ht (by rw [hq]; exact t0) hr' (by rw [hq]; exact hc)
      rw [hq] at a1
      rw [a1, e0]
      have eb : bsS E hold nr lim q t r p = (if p.2 < Int32.ofNat (zC (qT (yrs E hold nr lim 5 (st q (8 + t) (Int32.ofNat r))))) then (Int32.ofNat r, Int32.ofNat (zC (qT (yrs E hold nr lim 5 (st q (8 + t) (Int32.ofNat r)))))) else p) := by
        unfold bsS
        rw [if_pos hc]
      rw [eb]
      have q1 : f1 437 = q := by rw [a2.1 437 (by decide) (by decide) (by decide), hq]
      by_cases c : p.2 < Int32.ofNat (zC (qT (yrs E hold nr lim 5 (st q (8 + t) (Int32.ofNat r)))))
      · rw [if_pos c, if_pos c]
        obtain ⟨f', b1, b2⟩ := ih n (r + 1) (Int32.ofNat r, Int32.ofNat (zC (qT (yrs E hold nr lim 5 (st q (8 + t) (Int32.ofNat r)))))) f1 (by omega) q1 (HI_ma a2 h)
        exact ⟨f', b1, a2.trans b2⟩
      · rw [if_neg c, if_neg c]
        obtain ⟨f', b1, b2⟩ := ih n (r + 1) p f1 (by omega) q1 (HI_ma a2 h)
        exact ⟨f', b1, a2.trans b2⟩
    rw [lp_X12_best_27, X12_chambers M, cal_some, if_pos ((on_lt (by omega) (by omega)).mpr hr'), rdA8 ht]
    simp only [hq]
    by_cases c1 : q (8 + t) = Int32.ofNat r
    · rw [if_pos c1]
      exact go (Or.inl c1)
    · rw [if_neg c1, X12_canCarry M hq ht t0 hr', cal_some]
      by_cases c2 : zLeft hold q r < q t
      · rw [if_pos (Or.inr c2), if_pos rfl, on_succ, e0]
        have eb : bsS E hold nr lim q t r p = p := by
          unfold bsS
          rw [if_neg (fun z => z.elim c1 (fun w => w c2))]
        rw [eb]
        exact ih n (r + 1) p f (by omega) hq h
      · have nn : ¬ (q (8 + t) = Int32.ofNat r ∨ zLeft hold q r < q t) := fun z => z.elim c1 c2
        rw [if_neg nn, if_neg (show ¬ (1 : Int32) = 0 by decide)]
        exact go (Or.inr c2)
theorem q_best (h : HI f g b nr hold E lim) (x y : Int32) : AH f g (f_X11_best x y) (f_X12_best x y) := by
  have R := h.1
  have one : ¬ (1 : Int32) = 0 := by decide
  have h4 := h.2.2.2.2.1.2.1
  by_cases h1 : hs (f 437) x = true
  · by_cases hy : y < 0 ∨ (1 : Int32) < y
    · refine AH.same (v := -1) ?_ ?_
      · unfold f_X11_best
        rw [X7_has (h := (f, g)) R, cal_some, if_pos h1, if_neg one]
        by_cases h0 : y < 0
        · rw [if_pos h0]
        · rw [if_neg h0, if_pos (hy.elim (fun z => absurd z h0) id)]
      · unfold f_X12_best
        rw [X12_isThere, cal_some, X12_isIn, cal_some]
        simp only
        rw [if_pos h1, if_neg one, if_pos hy, if_pos rfl]
    · have y0 : ¬ y < 0 := fun z => hy (Or.inl z)
      have yy : ¬ (1 : Int32) < y := fun z => hy (Or.inr z)
      obtain ⟨t, ht, rfl, t0⟩ := hs_ex h1
      obtain ⟨f1, a1, a2⟩ := c_best (q := f 437) (x2 := y) (k := fun z16 z17 h18 => if y = 0 then some (z16, h18) else some (z17, h18)) ht t0 nr (3999 - nr) 0 ((-1), (-1)) f (by omega) rfl h
      have q1 : f1 437 = f 437 := ck_m a2 (by decide)
      obtain ⟨f2, b1, b2⟩ := m_best (q := f 437) (x2 := y) (k := fun z37 z38 h39 => if y = 0 then some (z37, h39) else some (z38, h39)) ht t0 nr (3999 - nr) 0 ((-1), (-1)) f1 (by omega) q1 (HI_ck (g' := g) a2 h)
      rw [show 3999 - nr + nr + 1 = 4000 by omega] at a1 b1
      have a1' : lp_X11_best_30 (Int32.ofNat t) y (fun z16 z17 h18 => if y = 0 then some (z16, h18) else some (z17, h18)) 4000 (-1) (-1) 0 (f, g) = _ := a1
      have b1' : lp_X12_best_27 (Int32.ofNat t) y (fun z37 z38 h39 => if y = 0 then some (z37, h39) else some (z38, h39)) 4000 (-1) (-1) 0 (f1, g) = _ := b1
      have ec : f_X11_best (Int32.ofNat t) y (f, g) = (if y = 0 then some ((fo (bsS E hold nr lim (f 437) t) nr 0 ((-1), (-1))).1, (f1, g)) else some ((fo (bsS E hold nr lim (f 437) t) nr 0 ((-1), (-1))).2, (f1, g))) := by
        unfold f_X11_best
        rw [X7_has (h := (f, g)) R, cal_some, if_pos h1, if_neg one, if_neg y0, if_neg yy, a1']
      have em : f_X12_best (Int32.ofNat t) y (f1, g) = (if y = 0 then some ((fo (bsS E hold nr lim (f 437) t) nr 0 ((-1), (-1))).1, (f2, g)) else some ((fo (bsS E hold nr lim (f 437) t) nr 0 ((-1), (-1))).2, (f2, g))) := by
        unfold f_X12_best
        rw [X12_isThere, cal_some, X12_isIn, cal_some]
        simp only [q1]
        rw [if_pos h1, if_neg one, if_neg hy, if_neg one, b1']
      by_cases c : y = 0
      · rw [if_pos c] at ec em
        exact ⟨_, f1, f2, ec, em, a2, b2⟩
      · rw [if_neg c] at ec em
        exact ⟨_, f1, f2, ec, em, a2, b2⟩
  · refine AH.same (v := -1) ?_ ?_
    · unfold f_X11_best
      rw [X7_has (h := (f, g)) R, cal_some, if_neg h1, if_pos rfl]
    · unfold f_X12_best
      rw [X12_isThere, cal_some]
      simp only
      rw [if_neg h1, if_pos rfl]
end YD
