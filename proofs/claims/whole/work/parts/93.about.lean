/-! fault, lies, about -/
section AB
variable {f : Nat → Nat → Int32} {g : (Nat → Nat → Int64) × (Nat → Nat → Option Nat)} {b nr nt : Nat} {hold : Nat → Int32} {E : EV} {lim : Int32} {tm : Nat → Nat}
theorem q_fault (h6 : f 14 6 = f 413 4) (h7 : f 14 7 = f 413 5) (x : Int32) : ∃ v, f_X11_fault x (f, g) = some v ∧ f_X12_fault x (f, g) = some v := by
  unfold f_X11_fault f_X12_fault
  by_cases c : x = 0
  · refine ⟨f 413 4, ?_, ?_⟩
    · rw [if_pos c, bnd_eq]; simp only [h6]
    · rw [if_pos c, bnd_eq]
  · by_cases c1 : x = 1
    · refine ⟨f 413 5, ?_, ?_⟩
      · rw [if_neg c, if_pos c1, bnd_eq]; simp only [h7]
      · rw [if_neg c, if_pos c1, bnd_eq]
    · exact ⟨-1, by rw [if_neg c, if_neg c1], by rw [if_neg c, if_neg c1]⟩
theorem q_lies (I : IL f) (x : Int32) : ∃ v, f_X11_lies x (f, g) = some v ∧ f_X12_lies x (f, g) = some v := by
  obtain ⟨c, hc, h1, h2, h3⟩ := I
  rcases i_cases x c (by omega) with ⟨i, hi, rfl, z1, z2, z3⟩ | ⟨z1, z2⟩
  · refine ⟨f 412 i, ?_, ?_⟩
    · unfold f_X11_lies
      have h8 : Int32.ofNat i < 8 := i8_lt i (by omega)
      rw [if_neg z1, bnd_eq]
      simp only [h1]
      rw [if_pos z2, if_pos h8, rdI_n (by omega) (by decide)]
    · unfold f_X12_lies
      rw [bnd_eq]
      simp only [h2]
      rw [X12_isIn, cal_some, if_neg z3, if_neg (by decide), rdI_n (by omega) (by decide)]
      simp only [h3 i hi]
  · refine ⟨-2, ?_, ?_⟩
    · unfold f_X11_lies
      by_cases e : x < 0
      · rw [if_pos e]
      · rw [if_neg e, bnd_eq]
        simp only [h1]
        rw [if_neg (z1.elim (fun z => absurd z e) id)]
    · unfold f_X12_lies
      rw [bnd_eq]
      simp only [h2]
      rw [X12_isIn, cal_some, if_pos z2, if_pos rfl]
theorem q_about (h : HI f g b nr hold E lim) (A : IA f g nr hold) (I : IM f nt b tm) (T : IT f) (L : IL f) (hu : f 10 4 = f 418 b) (x : Int32) : ∃ v, f_X11_about x (f, g) = some v ∧ f_X12_about x (f, g) = some v := by
  obtain ⟨R, W, -, -, P, M, -, -, h8, -, -, h19, -⟩ := h
  obtain ⟨pi, d, a, G, hda, ha, a1, a2, a3, a4, -, -⟩ := A
  obtain ⟨c, k1, k2, k3, k4, k5, -, -, k8, k9, k10, -⟩ := I
  obtain ⟨L0, -, t1, t2, -⟩ := T
  obtain ⟨lc, -, l1, l2, -⟩ := L
  have hb := M.2.1
  have m1 : f 413 32 = Int32.ofNat b := M.1
  have p1 : f 4 6 = Int32.ofNat nr := P.1
  have hsub : Int32.ofNat a - Int32.ofNat d = Int32.ofNat (a - d) := by
    rw [← Int32.toInt_inj, ti_sub (by rw [on_toInt (by omega), on_toInt (by omega)]; omega) (by rw [on_toInt (by omega), on_toInt (by omega)]; omega), on_toInt (by omega), on_toInt (by omega), on_toInt (by omega)]
    omega
  unfold f_X11_about f_X12_about
  by_cases c0 : x = 0
  · refine ⟨Int32.ofNat (zC (qT (f 437))), ?_, ?_⟩
    · rw [if_pos c0, X7_count (h := (f, g)) R, cal_some]
    · rw [if_pos c0, X12_those, cal_some, X12_bitsOf_zS, cal_some]
  rw [if_neg c0, if_neg c0]
  by_cases c1 : x = 1
  · refine ⟨Int32.ofNat nr, ?_, ?_⟩
    · rw [if_pos c1, bnd_eq]; simp only [p1]
    · rw [if_pos c1, X12_chambers M, cal_some]
  rw [if_neg c1, if_neg c1]
  by_cases c2 : x = 2
  · refine ⟨zS (qT (f 437)), ?_, ?_⟩
    · rw [if_pos c2, X7_bits (h := (f, g)) R, cal_some]
    · rw [if_pos c2, X12_those, cal_some]
  rw [if_neg c2, if_neg c2]
  by_cases c3 : x = 3
  · refine ⟨f 437 56, ?_, ?_⟩
    · rw [if_pos c3, bnd_eq]; simp only [R.2.1]
    · rw [if_pos c3, show (56 : Int32) = Int32.ofNat 56 from rfl, rdAk (by decide)]
  rw [if_neg c3, if_neg c3]
  by_cases c4 : x = 4
  · refine ⟨f 437 57, ?_, ?_⟩
    · rw [if_pos c4, bnd_eq]; simp only [R.2.2.1]
    · rw [if_pos c4, show (57 : Int32) = Int32.ofNat 57 from rfl, rdAk (by decide)]
  rw [if_neg c4, if_neg c4]
  by_cases c5 : x = 5
  · refine ⟨f 437 58, ?_, ?_⟩
    · rw [if_pos c5, bnd_eq]; simp only [R.2.2.2]
    · rw [if_pos c5, show (58 : Int32) = Int32.ofNat 58 from rfl, rdAk (by decide)]
  rw [if_neg c5, if_neg c5]
  by_cases c6 : x = 6
  · refine ⟨Int32.ofNat d, ?_, ?_⟩
    · rw [if_pos c6, bnd_eq]; simp only [a1]
    · rw [if_pos c6, bnd_eq]; simp only [a3]
  rw [if_neg c6, if_neg c6]
  by_cases c7 : x = 7
  · refine ⟨Int32.ofNat (a - d), ?_, ?_⟩
    · rw [if_pos c7, bnd_eq, bnd_eq]; simp only [a1, a2, hsub]
    · rw [if_pos c7, bnd_eq]; simp only [a4]
  rw [if_neg c7, if_neg c7]
  by_cases c8 : x = 8
  · refine ⟨Int32.ofNat c, ?_, ?_⟩
    · rw [if_pos c8, bnd_eq]; simp only [k8]
    · rw [if_pos c8, bnd_eq]; simp only [k9]
  rw [if_neg c8, if_neg c8]
  by_cases c9 : x = 9
  · refine ⟨f 413 56, ?_, ?_⟩
    · rw [if_pos c9, bnd_eq]; simp only [k10]
    · rw [if_pos c9, bnd_eq]
  rw [if_neg c9, if_neg c9]
  by_cases c10 : x = 10
  · refine ⟨Int32.ofNat L0, ?_, ?_⟩
    · rw [if_pos c10, bnd_eq]; simp only [t1]
    · rw [if_pos c10, bnd_eq]; simp only [t2]
  rw [if_neg c10, if_neg c10]
  by_cases c11 : x = 11
  · refine ⟨f 418 b, ?_, ?_⟩
    · rw [if_pos c11, bnd_eq]; simp only [hu]
    · rw [if_pos c11, bnd_eq]; simp only [m1]; rw [rdI_n hb (by decide)]
  rw [if_neg c11, if_neg c11]
  by_cases c12 : x = 12
  · refine ⟨Int32.ofNat lc, ?_, ?_⟩
    · rw [if_pos c12, bnd_eq]; simp only [l1]
    · rw [if_pos c12, bnd_eq]; simp only [l2]
  rw [if_neg c12, if_neg c12]
  by_cases c13 : x = 13
  · refine ⟨lim, ?_, ?_⟩
    · rw [if_pos c13, bnd_eq]; simp only [h8]
    · rw [if_pos c13, bnd_eq]; simp only [m1]; rw [rdI_n hb (by decide)]; simp only [h19]
  rw [if_neg c13, if_neg c13]
  by_cases c14 : x = 14
  · refine ⟨Int32.ofNat nt, ?_, ?_⟩
    · rw [if_pos c14, bnd_eq]; simp only [k1]
    · rw [if_pos c14, bnd_eq]; simp only [m1]; rw [rdI_n hb (by decide)]; simp only [k5]
  rw [if_neg c14, if_neg c14]
  exact ⟨-1, rfl, rfl⟩
end AB
