/-! The model's year -/
def MK (f f' : Nat → Nat → Int32) : Prop := (∀ a, a ≠ 413 → a ≠ 436 → a ≠ 437 → f' a = f a) ∧ ∀ k, k ≠ 38 → k ≠ 39 → f' 413 k = f 413 k
theorem MK.refl {f : Nat → Nat → Int32} : MK f f := ⟨fun _ _ _ _ => rfl, fun _ _ _ => rfl⟩
theorem MK.trans {f f' f'' : Nat → Nat → Int32} (h : MK f f') (h' : MK f' f'') : MK f f'' := ⟨fun a h1 h2 h3 => (h'.1 a h1 h2 h3).trans (h.1 a h1 h2 h3), fun k h1 h2 => (h'.2 k h1 h2).trans (h.2 k h1 h2)⟩
theorem MK.mn {f f' : Nat → Nat → Int32} (h : MN f f') : MK f f' := ⟨fun a h1 h2 _ => h.1 a h1 h2, h.2⟩
theorem MK.up {f : Nat → Nat → Int32} {q : Nat → Int32} : MK f (up f 437 q) := ⟨fun a _ _ h3 => up_ne h3, fun k _ _ => by rw [up_ne (by decide)]⟩
theorem MP_mk {f f' : Nat → Nat → Int32} {g g' : (Nat → Nat → Int64) × (Nat → Nat → Option Nat)} {b nr : Nat} {hold : Nat → Int32} (h : MK f f') (M : MP (f, g) b nr hold) : MP (f', g') b nr hold := by
  unfold MP at M ⊢
  simp only at M ⊢
  rw [h.1 416 (by decide) (by decide) (by decide), h.1 423 (by decide) (by decide) (by decide), h.2 32 (by decide) (by decide)]
  exact M
theorem EM_mk {f f' : Nat → Nat → Int32} {b nr : Nat} {hold : Nat → Int32} {E : EV} (h : MK f f') (e : EM f b nr hold E) : EM f' b nr hold E := fun f'' g i j a1 a2 a3 a4 a5 => e f'' g i j (a1.trans (h.1 422 (by decide) (by decide) (by decide))) (a2.trans (h.1 428 (by decide) (by decide) (by decide))) (a3.trans (h.1 429 (by decide) (by decide) (by decide))) (a4.trans (h.1 432 (by decide) (by decide) (by decide))) (a5.trans (h.1 433 (by decide) (by decide) (by decide)))
theorem LM_mk {f f' : Nat → Nat → Int32} {b : Nat} {lim : Int32} (h : MK f f') (L : LM f b lim) : LM f' b lim := by
  obtain ⟨l1, l2, l3⟩ := L
  refine ⟨by rw [h.2 32 (by decide) (by decide)]; exact l1, l2, ?_⟩
  rw [h.2 42 (by decide) (by decide), h.1 419 (by decide) (by decide) (by decide)]
  exact l3
theorem m_marks {p1 p2 p5 : Int32} {i j : Nat} (hi : i < 8) (hj : j < 8) {f : Nat → Nat → Int32} {g : (Nat → Nat → Int64) × (Nat → Nat → Option Nat)} {k : Int32 → am_H → Option am_H} : ∀ m n t (x : Int32), t + m = 6 → lp_X12_bringForth_54 p1 p2 (Int32.ofNat i) (Int32.ofNat j) p5 k (n + m + 1) x (Int32.ofNat t) (f, g) = k (fo (fun k x => x ||| ((if tb (f 437 58) k = true then f 437 (16 + i) else f 437 (16 + j)) &&& sB k)) m t x) (f, g) := by
  intro m
  induction m with
  | zero =>
    intro n t x ht
    obtain rfl : t = 6 := by omega
    rw [lp_X12_bringForth_54, if_neg (by decide)]
    rfl
  | succ m ih =>
    intro n t x ht
    have h6 : t < 6 := by omega
    have e : ∀ x, lp_X12_bringForth_54 p1 p2 (Int32.ofNat i) (Int32.ofNat j) p5 k (n + (m + 1)) x (Int32.ofNat (t + 1)) (f, g) = _ := fun x => ih n (t + 1) x (by omega)
    have hl : Int32.ofNat t < 6 := by
      rw [show (6 : Int32) = Int32.ofNat 6 from rfl, on_lt (by omega) (by omega)]
      exact h6
    have e58 : rdI (ρ := am_H) (f, g) 437 59 58 = rdI (f, g) 437 59 (Int32.ofNat 58) := rfl
    rw [lp_X12_bringForth_54, if_pos hl, e58, rdAk (by decide), X12_bit, cal_some, rdA16 hj, rdA16 hi, on_succ, fo]
    simp only
    by_cases c : tb (f 437 58) t = true
    · simp only [c, if_true]
      rw [if_neg (by decide)]
      exact e _
    · simp only [c, Bool.false_eq_true, if_false, if_true]
      exact e _
theorem X12_bringForth {nr i j t r : Nat} {f : Nat → Nat → Int32} {g : (Nat → Nat → Int64) × (Nat → Nat → Option Nat)} (W : WQ nr (f 437)) (hi : i < 8) (hj : j < 8) (ht : t < 8) (he : zCp (f 437) (Int32.ofNat r) = Int32.ofNat (8 * i + j)) (hf : zFree (f 437) = Int32.ofNat t) : f_X12_bringForth (Int32.ofNat r) (f, g) = some (up f 437 (zBf (f 437) i j t r), g) := by
  have e58 : ∀ F : Int32 → Option am_H, rdI (f, g) 437 59 58 F = F (f 437 58) := fun F => rdAk (k := 58) (by decide)
  have w58 : ∀ v (F : am_H → Option am_H), wrI (f, g) 437 59 58 v F = F (am_u2 f 437 58 v, g) := fun v F => wrAk (k := 58) (by decide)
  unfold f_X12_bringForth
  rw [X12_coupleOf (h := (f, g)) W.wp, cal_some, X12_freePlace, cal_some]
  simp only [he, hf]
  rw [e58, w58, cp_mod hi hj, cp_div hi hj]
  have hm := m_marks (p1 := Int32.ofNat r) (p2 := Int32.ofNat (8 * i + j)) (p5 := Int32.ofNat t) hi hj (f := am_u2 f 437 58 (137 * f 437 58 + 71 - (137 * f 437 58 + 71) / 1000 * 1000)) (g := g) (k := (fun z17 h18 =>
          cal (f_X12_youngOf (Int32.ofNat (8 * i + j)) h18) fun v21 =>
            wrI h18 437 59 (0 + Int32.ofNat t) v21 fun h23 =>
              wrI h23 437 59 (8 + Int32.ofNat t) (Int32.ofNat r) fun h26 =>
                wrI h26 437 59 (16 + Int32.ofNat t) z17 fun h29 =>
                  wrI h29 437 59 (24 + Int32.ofNat t) 0 fun h32 =>
                    wrI h32 437 59 (32 + Int32.ofNat t) 0 fun h35 =>
                      wrI h35 437 59 (40 + Int32.ofNat t) (Int32.ofNat i) fun h38 =>
                        wrI h38 437 59 (48 + Int32.ofNat t) (Int32.ofNat j) fun h41 => some h41)) 6 3993 0 0 rfl
  refine Eq.trans hm ?_
  rw [X12_youngOf hi hj, cal_some, wrA0 ht, wrA8 ht, wrA16 ht, wrA24 ht, wrA32 ht, wrA40 ht, wrA48 ht]
  simp only [u2_row, st_same]
  simp (disch := omega) only [st_ne]
  have e1 : fo (fun k x => x ||| ((if tb (137 * f 437 58 + 71 - (137 * f 437 58 + 71) / 1000 * 1000) k = true then f 437 (16 + i) else f 437 (16 + j)) &&& sB k)) 6 0 0 = zMk (f 437) (zSd (f 437 58)) i j := by
    unfold zMk
    rw [(W.wm i hi).2, (W.wm j hj).2]
    exact marks_fold (W.wm i hi).1 (W.wm j hj).1
  rw [e1]
  congr 2
  simp only [u2_up, up_up, up_same]
  rfl
theorem m_rooms {b nr : Nat} {hold : Nat → Int32} {E : EV} {g : (Nat → Nat → Int64) × (Nat → Nat → Option Nat)} {k : Int32 → am_H → Option (Int32 × am_H)} (H : HO nr hold) : ∀ m n r (x : Int32) (f : Nat → Nat → Int32), r + m = nr → MP (f, g) b nr hold → WQ nr (f 437) → WL nr hold (f 437) → EM f b nr hold E → ∃ f', lp_X12_goYear_115 k (n + m + 1) x (Int32.ofNat r) (f, g) = k (fo (zRs E hold) m r (f 437, x)).2 (f', g) ∧ f' 437 = (fo (zRs E hold) m r (f 437, x)).1 ∧ MK f f' := by
  intro m
  induction m with
  | zero =>
    intro n r x f hr M W L e
    have hp := M.2.2.2.1
    rw [lp_X12_goYear_115, X12_chambers M, cal_some, if_neg (by rw [on_lt (by omega) (by omega)]; omega)]
    exact ⟨f, rfl, rfl, MK.refl⟩
  | succ m ih =>
    intro n r x f hr M W L e
    have hp := M.2.2.2.1
    have hr' : r < nr := by omega
    have e0 : fo (zRs E hold) (m + 1) r (f 437, x) = fo (zRs E hold) m (r + 1) (zRs E hold r (f 437, x)) := rfl
    obtain ⟨W', L'⟩ := W_rs (E := E) (p := (f 437, x)) hp H hr' W L
    obtain ⟨f1, k1, k2⟩ := X12_isRipe M W e hr'
    have K1 := MK.mn k2
    have q1 : f1 437 = f 437 := k2.1 437 (by decide) (by decide)
    rw [e0, lp_X12_goYear_115, X12_chambers M, cal_some, if_pos ((on_lt (by omega) (by omega)).mpr hr'), k1, cal2_some]
    by_cases h : zRp E hold (f 437) r = true
    · rw [if_pos h, if_neg (show ¬ (1 : Int32) = 0 by decide)]
      obtain ⟨i, j, t, hi, hj, ht, gi, gj, q0, ri, he, ft, ci, cj, et, h3⟩ := rp_at h
      rw [X12_freePlace, cal_some]
      simp only [q1, ft]
      rw [X12_bringForth (by rw [q1]; exact W) hi hj ht (by rw [q1]; exact he) (by rw [q1]; exact ft), cal_some, on_succ, q1]
      have ez : zRs E hold r (f 437, x) = (zBf (f 437) i j t r, x ||| sB t) := by
        unfold zRs
        rw [if_pos h, ci, cj, et]
      rw [ez] at W' L' ⊢
      have K2 : MK f (up f1 437 (zBf (f 437) i j t r)) := K1.trans MK.up
      obtain ⟨f', a1, a2, a3⟩ := ih n (r + 1) (x ||| sB t) (up f1 437 (zBf (f 437) i j t r)) (by omega) (MP_mk K2 M) (by rw [up_same]; exact W') (by rw [up_same]; exact L') (EM_mk K2 e)
      rw [up_same] at a1 a2
      exact ⟨f', a1, a2, K2.trans a3⟩
    · rw [if_neg h, if_pos (show (0 : Int32) = 0 from rfl), on_succ]
      have ez : zRs E hold r (f 437, x) = (f 437, x) := by
        unfold zRs
        rw [if_neg h]
      rw [ez]
      obtain ⟨f', a1, a2, a3⟩ := ih n (r + 1) x f1 (by omega) (MP_mk K1 M) (by rw [q1]; exact W) (by rw [q1]; exact L) (EM_mk K1 e)
      rw [q1] at a1 a2
      exact ⟨f', a1, a2, K1.trans a3⟩
def kY3 (z39 : Int32) (h40 : am_H) : Option (Int32 × am_H) := rdI h40 437 59 57 fun v42 => wrI h40 437 59 57 (v42 + 1) fun h43 => some (z39, h43)
def kY2 (h21 : am_H) : Option (Int32 × am_H) := lp_X12_goYear_115 kY3 4000 0 0 h21
def kY1 (h6 : am_H) : Option (Int32 × am_H) := lp_X12_goYear_32 kY2 4000 0 h6
theorem goYear_k {h : am_H} : f_X12_goYear h = lp_X12_goYear_2 kY1 4000 0 h := rfl
theorem goYear_1 {b nr : Nat} {hold : Nat → Int32} {lim : Int32} {f : Nat → Nat → Int32} {g : (Nat → Nat → Int64) × (Nat → Nat → Option Nat)} (hl : lim.toInt ≤ 9) (M : MP (f, g) b nr hold) (Li : LM f b lim) (W : WQ nr (f 437)) (W1 : WQ nr (zListen lim (f 437)).1) : f_X12_goYear (f, g) = lp_X12_goYear_115 kY3 4000 0 0 (up f 437 (zGrow hold (zListen lim (f 437)).1), g) := by
  have s1 : lp_X12_goYear_2 kY1 4000 0 (up f 437 (f 437), g) = kY1 (up f 437 (zListen lim (f 437)).1, g) := m_goListen (nr := nr) (f := f) (g := g) (k := kY1) hl Li 8 3991 0 (f 437, 0) rfl W
  have s2 : lp_X12_goYear_32 kY2 4000 0 (up f 437 (zListen lim (f 437)).1, g) = kY2 (up f 437 (zGrow hold (zListen lim (f 437)).1), g) := m_goGrow (f := f) (g := g) (k := kY2) M 8 3991 0 (zListen lim (f 437)).1 rfl W1
  rw [up_self] at s1
  rw [goYear_k, s1]
  exact s2
theorem X12_goYear {b nr : Nat} {hold : Nat → Int32} {lim : Int32} {E : EV} {f : Nat → Nat → Int32} {g : (Nat → Nat → Int64) × (Nat → Nat → Option Nat)} (H : HO nr hold) (hl : lim.toInt ≤ 9) (M : MP (f, g) b nr hold) (Li : LM f b lim) (W : WQ nr (f 437)) (L : WL nr hold (f 437)) (e : EM f b nr hold E) : ∃ f', f_X12_goYear (f, g) = some ((zPass E hold nr lim (f 437)).2.1, (f', g)) ∧ f' 437 = (zPass E hold nr lim (f 437)).1 ∧ MK f f' := by
  have hp := M.2.2.2.1
  obtain ⟨W1, L1⟩ := W_listen (hold := hold) hl W L
  obtain ⟨W2, L2⟩ := W_grow hp H W1 L1
  rw [goYear_1 hl M Li W W1]
  unfold zPass
  simp only
  generalize zGrow hold (zListen lim (f 437)).1 = z at W2 L2 ⊢
  have K0 : MK f (up f 437 z) := MK.up
  obtain ⟨f', a1, a2, a3⟩ := m_rooms (E := E) (g := g) (k := kY3) H nr (3999 - nr) 0 0 (up f 437 z) (by omega) (MP_mk K0 M) (by rw [up_same]; exact W2) (by rw [up_same]; exact L2) (EM_mk K0 e)
  rw [show 3999 - nr + nr + 1 = 4000 by omega, up_same] at a1
  rw [up_same] at a2
  generalize fo (zRs E hold) nr 0 (z, 0) = C at a1 a2 ⊢
  have e57 : ∀ F : Int32 → Option (Int32 × am_H), rdI (f', g) 437 59 57 F = F (f' 437 57) := fun F => rdAk (k := 57) (by decide)
  have w57 : ∀ v (F : am_H → Option (Int32 × am_H)), wrI (f', g) 437 59 57 v F = F (am_u2 f' 437 57 v, g) := fun v F => wrAk (k := 57) (by decide)
  unfold kY3 at a1
  rw [e57, w57, a2] at a1
  refine ⟨_, a1, ?_, ?_⟩
  · rw [u2_row, a2]
  · rw [u2_up]
    exact (K0.trans a3).trans MK.up
