/-! What lies ahead, asked of both -/
theorem la_no {n : Nat} (hn : n ≤ 30) : ¬ (Int32.ofNat n < 0 ∨ (30 : Int32) < Int32.ofNat n) := fun z => z.elim (la_yes hn).1 (la_yes hn).2
section YB
variable {f : Nat → Nat → Int32} {g : (Nat → Nat → Int64) × (Nat → Nat → Option Nat)} {b nr : Nat} {hold : Nat → Int32} {E : EV} {lim : Int32}
/-- the house, as both have it -/
def HI (f : Nat → Nat → Int32) (g : (Nat → Nat → Int64) × (Nat → Nat → Option Nat)) (b nr : Nat) (hold : Nat → Int32) (E : EV) (lim : Int32) : Prop := RC 27 (f 437) f ∧ WQ nr (f 437) ∧ WL nr hold (f 437) ∧ HO nr hold ∧ PC (f, g) nr hold ∧ MP (f, g) b nr hold ∧ EC f E ∧ EM f b nr hold E ∧ f 4 8 = lim ∧ 1 ≤ lim.toInt ∧ lim.toInt ≤ 9 ∧ f 419 b = lim ∧ f 413 42 = -1
theorem HI.lm (h : HI f g b nr hold E lim) : LM f b lim := by
  obtain ⟨-, -, -, -, -, M, -, -, -, -, -, h1, h2⟩ := h
  refine ⟨M.1, M.2.1, ?_⟩
  rw [h2, if_pos (by decide), h1]
/-- the class looks ahead, the model's part is as before -/
theorem ck_m {f f1 : Nat → Nat → Int32} (K : CK 36 f f1) {a : Nat} (ha : 413 ≤ a) : f1 a = f a := K a (by omega) (by omega) (by omega)
theorem MP_ck {f f1 : Nat → Nat → Int32} (K : CK 36 f f1) (M : MP (f, g) b nr hold) : MP (f1, g) b nr hold := by
  unfold MP at M ⊢
  simp only at M ⊢
  rw [ck_m K (by decide), ck_m K (by decide), ck_m K (by decide)]
  exact M
theorem EM_ck {f f1 : Nat → Nat → Int32} (K : CK 36 f f1) (e : EM f b nr hold E) : EM f1 b nr hold E := fun f'' g i j a1 a2 a3 a4 a5 => e f'' g i j (a1.trans (ck_m K (by decide))) (a2.trans (ck_m K (by decide))) (a3.trans (ck_m K (by decide))) (a4.trans (ck_m K (by decide))) (a5.trans (ck_m K (by decide)))
theorem LM_ck {f f1 : Nat → Nat → Int32} (K : CK 36 f f1) (L : LM f b lim) : LM f1 b lim := by
  unfold LM at L ⊢
  rw [ck_m K (by decide), ck_m K (by decide)]
  exact L
def AH (f : Nat → Nat → Int32) (g : (Nat → Nat → Int64) × (Nat → Nat → Option Nat)) (C M : am_H → Option (Int32 × am_H)) : Prop := ∃ v f1 f2, C (f, g) = some (v, (f1, g)) ∧ M (f1, g) = some (v, (f2, g)) ∧ CK 36 f f1 ∧ MA f1 f2
theorem AH.same {C M : am_H → Option (Int32 × am_H)} {v : Int32} (h1 : C (f, g) = some (v, (f, g))) (h2 : M (f, g) = some (v, (f, g))) : AH f g C M := ⟨v, f, f, h1, h2, CK.refl, MA.refl⟩
/-- the model's years, with what was kept -/
theorem m_look {f : Nat → Nat → Int32} {lim : Int32} (H : HO nr hold) (hl : lim.toInt ≤ 9) {N : Nat} (hN : N ≤ 30) {w : Nat → Int32} (M : MP (f, g) b nr hold) (Li : LM f b lim) (W : WQ nr (f 437)) (L : WL nr hold (f 437)) (em : EM f b nr hold E) : ∃ c' f2, f_X12_goYears (Int32.ofNat N) (up f 438 w, g) = some (c', (f2, g)) ∧ f2 437 = yrs E hold nr lim N (f 437) ∧ MK (up f 438 w) f2 := by
  have e : up f 438 w 437 = f 437 := up_ne (by decide)
  have h := X12_goYears (g := g) (E := E) H hl hN (MP_438 (w := w) M) (LM_438 Li) (by rw [e]; exact W) (by rw [e]; exact L) (EM_438 em)
  rw [e] at h
  exact h
theorem q_alive (h : HI f g b nr hold E lim) (x : Int32) : AH f g (f_X11_alive x) (f_X12_alive x) := by
  have Li := h.lm
  obtain ⟨R, W, L, H, P, M, e, em, h8, l1, l9, h19, h42⟩ := h
  have one : ¬ (1 : Int32) = 0 := by decide
  have h4 := P.2.1
  rcases la_cases x with ⟨N, hN, rfl⟩ | hx
  · obtain ⟨y1, y2⟩ := la_yes hN
    obtain ⟨f1, a1, a2, a3⟩ := X10_behind (g := g) H l9 hN R W L P e
    obtain ⟨w, k1, k2⟩ := X12_keepNow (f := f1) (g := g)
    have q1 : f1 437 = f 437 := ck_m a3 (by decide)
    obtain ⟨c', f2, b1, b2, b3⟩ := m_look (g := g) (E := E) (w := w) H l9 hN (MP_ck a3 M) (LM_ck a3 Li) (by rw [q1]; exact W) (by rw [q1]; exact L) (EM_ck a3 em)
    obtain ⟨w2, d1, d2⟩ := X12_bringBack (f := f2) (g := g)
    refine ⟨zS (qT (yrs E hold nr lim N (f 437))), f1, up f2 437 w2, ?_, ?_, a3, MA.of b3 k2 d2 (fun i hi => by rw [b2, hi_yrs hi]) rfl⟩
    · unfold f_X11_alive
      rw [X11_lie hN, cal_some, if_neg one, bnd_eq]
      simp only [h8]
      rw [a1, cal_some, X7_bits (h := (f1, g)) a2, cal_some]
    · unfold f_X12_alive
      rw [X12_isIn, cal_some, if_neg (la_no hN), if_neg one, k1, cal_some, b1, cal2_some, X12_those, cal_some, d1, cal_some]
      simp only [b2, q1]
  · refine AH.same (v := -1) ?_ ?_
    · unfold f_X11_alive
      rw [X11_nolie hx, cal_some, if_pos rfl]
    · unfold f_X12_alive
      rw [X12_isIn, cal_some, if_pos hx, if_pos rfl]
theorem marks_y {q : Nat → Int32} (W : WQ nr q) {h : am_H} (hq : h.1 437 = q) : f_X12_marksAll h = some (zMarks q) := by
  subst hq
  exact X12_marksAll W.wb W.wz
theorem q_fading (h : HI f g b nr hold E lim) (x : Int32) : AH f g (f_X11_fading x) (f_X12_fading x) := by
  have Li := h.lm
  obtain ⟨R, W, L, H, P, M, e, em, h8, l1, l9, h19, h42⟩ := h
  have one : ¬ (1 : Int32) = 0 := by decide
  have h4 := P.2.1
  rcases la_cases x with ⟨N, hN, rfl⟩ | hx
  · obtain ⟨y1, y2⟩ := la_yes hN
    obtain ⟨f1, a1, a2, a3⟩ := X10_behind (g := g) H l9 hN R W L P e
    obtain ⟨w, k1, k2⟩ := X12_keepNow (f := f1) (g := g)
    have q1 : f1 437 = f 437 := ck_m a3 (by decide)
    obtain ⟨c', f2, b1, b2, b3⟩ := m_look (g := g) (E := E) (w := w) H l9 hN (MP_ck a3 M) (LM_ck a3 Li) (by rw [q1]; exact W) (by rw [q1]; exact L) (EM_ck a3 em)
    obtain ⟨w2, d1, d2⟩ := X12_bringBack (f := f2) (g := g)
    have Wy := (W_yrs (E := E) h4 H l9 N _ W L).1
    refine ⟨zMarks (f 437) &&& (zMarks (yrs E hold nr lim N (f 437)) ^^^ ((-1) : Int32)), f1, up f2 437 w2, ?_, ?_, a3, MA.of b3 k2 d2 (fun i hi => by rw [b2, hi_yrs hi]) rfl⟩
    · unfold f_X11_fading
      rw [X11_lie hN, cal_some, if_neg one, X7_allMarks (h := (f, g)) R, cal_some, bnd_eq]
      simp only [h8]
      rw [a1, cal_some, X7_allMarks (h := (f1, g)) a2, cal_some]
    · unfold f_X12_fading
      rw [X12_isIn, cal_some, if_neg (la_no hN), if_neg one, k1, cal_some, marks_y W (show up f1 438 w 437 = f 437 by rw [up_ne (by decide), q1]), cal_some, b1, cal2_some, marks_y Wy (show f2 437 = _ by rw [b2, q1]), cal_some, d1, cal_some]
  · refine AH.same (v := -1) ?_ ?_
    · unfold f_X11_fading
      rw [X11_nolie hx, cal_some, if_pos rfl]
    · unfold f_X12_fading
      rw [X12_isIn, cal_some, if_pos hx, if_pos rfl]
theorem q_will (h : HI f g b nr hold E lim) (x n y : Int32) : AH f g (f_X11_will x n y) (f_X12_will x n y) := by
  have Li := h.lm
  obtain ⟨R, W, L, H, P, M, e, em, h8, l1, l9, h19, h42⟩ := h
  have one : ¬ (1 : Int32) = 0 := by decide
  have h4 := P.2.1
  by_cases hy : y < 0 ∨ (1 : Int32) < y
  · rcases la_cases n with ⟨N, hN, rfl⟩ | hx
    · obtain ⟨y1, y2⟩ := la_yes hN
      refine AH.same (v := -1) ?_ ?_
      · unfold f_X11_will
        rw [X11_lie hN, cal_some, if_neg one]
        by_cases h0 : y < 0
        · rw [if_pos h0]
        · rw [if_neg h0, if_pos (hy.elim (fun z => absurd z h0) id)]
      · unfold f_X12_will
        rw [X12_isIn, cal_some, X12_isIn, cal_some, X12_isIn, cal_some, if_neg (la_no hN), if_pos hy]
        by_cases hx7 : x < 0 ∨ (7 : Int32) < x
        · rw [if_pos hx7, if_pos rfl]
        · rw [if_neg hx7, if_neg one, if_neg one, if_pos rfl]
    · refine AH.same (v := -1) ?_ ?_
      · unfold f_X11_will
        rw [X11_nolie hx, cal_some, if_pos rfl]
      · unfold f_X12_will
        rw [X12_isIn, cal_some, X12_isIn, cal_some, if_pos hx]
        by_cases hx7 : x < 0 ∨ (7 : Int32) < x
        · rw [if_pos hx7, if_pos rfl]
        · rw [if_neg hx7, if_neg one, if_pos rfl]
  · have y0 : ¬ y < 0 := fun z => hy (Or.inl z)
    have yy : ¬ (1 : Int32) < y := fun z => hy (Or.inr z)
    rcases la_cases n with ⟨N, hN, rfl⟩ | hx
    · obtain ⟨y1, y2⟩ := la_yes hN
      obtain ⟨f1, a1, a2, a3⟩ := X10_behind (g := g) H l9 hN R W L P e
      have q1 : f1 437 = f 437 := ck_m a3 (by decide)
      have hcl : f_X11_will x (Int32.ofNat N) y (f, g) = (cal (f_X7_has 36 x (f1, g)) fun v10 => if v10 = 0 then some ((-1), (f1, g)) else if y = 0 then rdI (f1, g) (36 + 1) 8 x fun v13 => some (v13, (f1, g)) else rdI (f1, g) (36 + 3) 8 x fun v12 => some (v12, (f1, g))) := by
        unfold f_X11_will
        rw [X11_lie hN, cal_some, if_neg one, if_neg y0, if_neg yy, bnd_eq]
        simp only [h8]
        rw [a1, cal_some]
      rcases i8_cases x with h1 | ⟨t, ht, rfl⟩ | ⟨h1, h2⟩
      · refine ⟨-1, f1, f1, ?_, ?_, a3, MA.refl⟩
        · rw [hcl, X7_has (h := (f1, g)) a2, cal_some, if_neg (show ¬ hs (yrs E hold nr lim N (f 437)) x = true by simp [hs, h1]), if_pos rfl]
        · unfold f_X12_will
          rw [X12_isIn, cal_some, if_pos (Or.inl h1), if_pos rfl]
      · obtain ⟨w, k1, k2⟩ := X12_keepNow (f := f1) (g := g)
        obtain ⟨c', f2, b1, b2, b3⟩ := m_look (g := g) (E := E) (w := w) H l9 hN (MP_ck a3 M) (LM_ck a3 Li) (by rw [q1]; exact W) (by rw [q1]; exact L) (EM_ck a3 em)
        obtain ⟨w2, d1, d2⟩ := X12_bringBack (f := f2) (g := g)
        have Wy := (W_yrs (E := E) h4 H l9 N _ W L).1
        rw [q1] at b2
        have hml : f_X12_will (Int32.ofNat t) (Int32.ofNat N) y (f1, g) = (if yrs E hold nr lim N (f 437) t = 0 then some ((-1), (up f2 437 w2, g)) else if y = 0 then some (yrs E hold nr lim N (f 437) t, (up f2 437 w2, g)) else some (yrs E hold nr lim N (f 437) (16 + t), (up f2 437 w2, g))) := by
          unfold f_X12_will
          have n7 : ¬ (Int32.ofNat t < 0 ∨ (7 : Int32) < Int32.ofNat t) := by
            rw [not_lt_7]
            have := i8_lt t ht
            have := i8_ge t (by omega)
            simp [*]
          rw [X12_isIn, cal_some, X12_isIn, cal_some, X12_isIn, cal_some, if_neg n7, if_neg one, if_neg (la_no hN), if_neg one, if_neg hy, if_neg one, k1, cal_some, b1, cal2_some, rdA0 ht, rdA0 ht, rdA16 ht, d1, cal_some, cal_some, cal_some]
          simp only [b2]
        rcases Wy.wb t ht with hz | hz
        · refine ⟨-1, f1, up f2 437 w2, ?_, ?_, a3, MA.of b3 k2 d2 (fun i hi => by rw [b2, hi_yrs hi, q1]) rfl⟩
          · rw [hcl, X7_has (h := (f1, g)) a2, cal_some, hs_on ht, if_neg (show ¬ decide (0 < yrs E hold nr lim N (f 437) t) = true by rw [hz]; decide), if_pos rfl]
          · rw [hml, if_pos hz]
        · by_cases hy0 : y = 0
          · refine ⟨yrs E hold nr lim N (f 437) t, f1, up f2 437 w2, ?_, ?_, a3, MA.of b3 k2 d2 (fun i hi => by rw [b2, hi_yrs hi, q1]) rfl⟩
            · rw [hcl, X7_has (h := (f1, g)) a2, cal_some, hs_on ht, if_pos (show decide (0 < yrs E hold nr lim N (f 437) t) = true by simp [hz]), if_neg one, if_pos hy0, rdS1 (h := (f1, g)) a2 ht]
            · rw [hml, if_neg (pos_ne hz), if_pos hy0]
          · refine ⟨yrs E hold nr lim N (f 437) (16 + t), f1, up f2 437 w2, ?_, ?_, a3, MA.of b3 k2 d2 (fun i hi => by rw [b2, hi_yrs hi, q1]) rfl⟩
            · rw [hcl, X7_has (h := (f1, g)) a2, cal_some, hs_on ht, if_pos (show decide (0 < yrs E hold nr lim N (f 437) t) = true by simp [hz]), if_neg one, if_neg hy0, rdS3 (h := (f1, g)) a2 ht]
            · rw [hml, if_neg (pos_ne hz), if_neg hy0]
      · refine ⟨-1, f1, f1, ?_, ?_, a3, MA.refl⟩
        · rw [hcl, X7_has (h := (f1, g)) a2, cal_some, if_neg (show ¬ hs (yrs E hold nr lim N (f 437)) x = true by simp [hs, h2]), if_pos rfl]
        · unfold f_X12_will
          rw [X12_isIn, cal_some, if_pos (Or.inr (not_lt_7.mpr h2)), if_pos rfl]
    · refine AH.same (v := -1) ?_ ?_
      · unfold f_X11_will
        rw [X11_nolie hx, cal_some, if_pos rfl]
      · unfold f_X12_will
        rw [X12_isIn, cal_some, X12_isIn, cal_some, if_pos hx]
        by_cases hx7 : x < 0 ∨ (7 : Int32) < x
        · rw [if_pos hx7, if_pos rfl]
        · rw [if_neg hx7, if_neg one, if_pos rfl]
theorem q_law (h : HI f g b nr hold E lim) (p x : Int32) : AH f g (f_X11_law p x) (f_X12_law p x) := by
  obtain ⟨R, W, L, H, P, M, e, em, h8, l1, l9, h19, h42⟩ := h
  have one : ¬ (1 : Int32) = 0 := by decide
  have h4 := P.2.1
  by_cases hp : p < 1 ∨ (9 : Int32) < p
  · refine AH.same (v := -1) ?_ ?_
    · unfold f_X11_law
      by_cases h0 : p < 1
      · rw [if_pos h0]
      · rw [if_neg h0, if_pos (hp.elim (fun z => absurd z h0) id)]
    · unfold f_X12_law
      rw [X12_isIn, cal_some, if_pos hp, if_pos rfl]
  · have p0 : ¬ p < 1 := fun z => hp (Or.inl z)
    have p9 : ¬ (9 : Int32) < p := fun z => hp (Or.inr z)
    have pl : p.toInt ≤ 9 := by
      rw [Int32.lt_iff_toInt_lt] at p9
      have e9 : (9 : Int32).toInt = 9 := rfl
      omega
    have pn : ¬ p < 0 := by
      rw [Int32.lt_iff_toInt_lt] at p0 ⊢
      rw [ti_0]
      rw [ti_1] at p0
      omega
    rcases la_cases x with ⟨N, hN, rfl⟩ | hx
    · obtain ⟨y1, y2⟩ := la_yes hN
      obtain ⟨f1, a1, a2, a3⟩ := X10_behind (g := g) H pl hN R W L P e
      obtain ⟨w, k1, k2⟩ := X12_keepNow (f := f1) (g := g)
      have q1 : f1 437 = f 437 := ck_m a3 (by decide)
      have h1M := MP_ck a3 M
      -- the model thinks of another limit
      have qp : am_u2 (up f1 438 w) 413 42 p 437 = f 437 := by rw [u2_ne (by decide), up_ne (by decide), q1]
      have Mp : MP (am_u2 (up f1 438 w) 413 42 p, g) b nr hold := by
        have := MP_438 (w := w) h1M
        unfold MP at this ⊢
        simp only at this ⊢
        rw [au_nk (by decide), u2_ne (by decide), u2_ne (by decide)]
        exact this
      have Lp : LM (am_u2 (up f1 438 w) 413 42 p) b p := ⟨Mp.1, Mp.2.1, by rw [au_same, if_neg pn]⟩
      have ep : EM (am_u2 (up f1 438 w) 413 42 p) b nr hold E := fun f'' g i j z1 z2 z3 z4 z5 => EM_438 (w := w) (EM_ck a3 em) f'' g i j (z1.trans (u2_ne (by decide))) (z2.trans (u2_ne (by decide))) (z3.trans (u2_ne (by decide))) (z4.trans (u2_ne (by decide))) (z5.trans (u2_ne (by decide)))
      obtain ⟨c', f2, b1, b2, b3⟩ := X12_goYears (g := g) (E := E) H pl hN Mp Lp (by rw [qp]; exact W) (by rw [qp]; exact L) ep
      rw [qp] at b2
      obtain ⟨w2, d1, d2⟩ := X12_bringBack (f := am_u2 f2 413 42 (-1)) (g := g)
      refine ⟨Int32.ofNat (zC (qT (yrs E hold nr p N (f 437)))), f1, up (am_u2 f2 413 42 (-1)) 437 w2, ?_, ?_, a3, ⟨fun a z1 z2 z4 => ?_, fun k z1 z2 => ?_⟩⟩
      · unfold f_X11_law
        rw [if_neg p0, if_neg p9, X11_lie hN, cal_some, if_neg one, a1, cal_some, X7_count (h := (f1, g)) a2, cal_some]
      · unfold f_X12_law
        rw [X12_isIn, cal_some, if_neg hp, if_neg one, X12_isIn, cal_some, if_neg (la_no hN), if_neg one, k1, cal_some, ptI_eq]
        have b1' : f_X12_goYears (Int32.ofNat N) (am_u2 (up f1 438 w, g).1 413 42 p, (up f1 438 w, g).2) = _ := b1
        rw [b1', cal2_some, ptI_eq, X12_those, cal_some]
        simp only
        rw [X12_bitsOf_zS, cal_some]
        have d1' : f_X12_bringBack (am_u2 f2 413 42 (-1), g) = _ := d1
        rw [d1', cal_some, u2_ne (show (437 : Nat) ≠ 413 by decide), b2]
      · by_cases z3 : a = 437
        · subst z3
          rw [up_same]
          funext k
          by_cases hk : k < 59
          · rw [d2.1 k hk, u2_ne (by decide), b3.1 438 (by decide) (by decide) (by decide), u2_ne (by decide), up_same, k2 k hk]
          · rw [d2.2 k (by omega), u2_ne (by decide), b2, hi_yrs (by omega), q1]
        · rw [up_ne z3, u2_ne z1, b3.1 a z1 z2 z3, u2_ne z1, up_ne z4]
      · rw [up_ne (by decide)]
        by_cases ek : k = 42
        · subst ek
          rw [au_same, ck_m a3 (by decide), h42]
        · rw [au_nk ek, b3.2 k z1 z2, au_nk ek, up_ne (by decide)]
    · refine AH.same (v := -1) ?_ ?_
      · unfold f_X11_law
        rw [if_neg p0, if_neg p9, X11_nolie hx, cal_some, if_pos rfl]
      · unfold f_X12_law
        rw [X12_isIn, cal_some, if_neg hp, if_neg one, X12_isIn, cal_some, if_pos hx, if_pos rfl]
end YB
